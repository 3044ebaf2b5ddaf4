theorem dX10_gap_39 : decode cX10_gap 39 = .ok (.iload_n 3, 1) := by decide +kernel
theorem dX10_gap_40 : decode cX10_gap 40 = .ok (.iconst 1, 1) := by decide +kernel
theorem dX10_gap_41 : decode cX10_gap 41 = .ok (.iadd, 1) := by decide +kernel
theorem dX10_gap_42 : decode cX10_gap 42 = .ok (.invokevirtual 270, 3) := by decide +kernel
theorem dX10_gap_45 : decode cX10_gap 45 = .ok (.imul, 1) := by decide +kernel
theorem dX10_gap_46 : decode cX10_gap 46 = .ok (.istore 4, 2) := by decide +kernel
theorem dX10_gap_48 : decode cX10_gap 48 = .ok (.iload 4, 2) := by decide +kernel
theorem dX10_gap_50 : decode cX10_gap 50 = .ok (.iload_n 2, 1) := by decide +kernel
theorem dX10_gap_51 : decode cX10_gap 51 = .ok (.if_icmp .le 8, 3) := by decide +kernel
theorem dX10_gap_54 : decode cX10_gap 54 = .ok (.iload 4, 2) := by decide +kernel
theorem dX10_gap_56 : decode cX10_gap 56 = .ok (.istore_n 2, 1) := by decide +kernel
theorem dX10_gap_57 : decode cX10_gap 57 = .ok (.iload_n 3, 1) := by decide +kernel
theorem dX10_gap_58 : decode cX10_gap 58 = .ok (.istore_n 1, 1) := by decide +kernel
theorem dX10_gap_59 : decode cX10_gap 59 = .ok (.iinc 3 1, 3) := by decide +kernel
theorem dX10_gap_62 : decode cX10_gap 62 = .ok (.goto (-52), 3) := by decide +kernel
theorem dX10_gap_65 : decode cX10_gap 65 = .ok (.iload_n 1, 1) := by decide +kernel
theorem dX10_gap_66 : decode cX10_gap 66 = .ok (.ireturn, 1) := by decide +kernel
set_option maxRecDepth 20000 in
theorem ggX10_core_X10_refreshFrontier : GoodIn wsX10_core wsX10_refreshFrontier := goodIn_r _ [9, 10, 11, 3, 12, 13, 1, 14, 15, 16, 17, 18, 19, 20, 21, 22, 23, 24, 25, 26, 27, 28, 29, 30, 31, 32, 33, 34, 35, 36, 37, 38, 39, 40, 41, 42, 43, 44, 45, 46, 47, 48, 49, 50, 51, 52, 53, 54, 55, 56, 57, 58, 59, 60, 61, 62, 63, 64, 65, 66, 67, 68, 69, 70, 71, 72, 73, 74, 75, 76, 77, 78, 79, 80, 81, 82, 83, 84, 85, 86, 87, 88, 89, 90, 91, 92, 93, 94, 95, 96, 97, 98, 99, 100, 101, 102, 103, 104, 105, 106, 107, 108, 109, 110, 111, 112, 113, 114, 115, 116, 117, 118, 119, 120, 121, 122, 123, 124, 125, 126, 127, 128, 129, 130, 131, 132, 133, 140, 141, 142, 143, 144, 145, 146, 147, 148, 149, 150, 151, 152, 153, 154, 155, 156, 157, 158, 172, 173, 174, 175, 176, 177, 178, 179, 180, 181, 182, 183, 184, 185, 186, 187, 188, 189, 190, 191, 192, 193, 159, 160, 161, 162, 163, 164, 165, 166, 167, 168, 169, 170, 171] (by decide +kernel) (by decide +kernel)
set_option maxRecDepth 20000 in
theorem gX10_core_X10_refreshFrontier : GoodIn wsX10_core (wsV RX10 188 RX10 yX10_refreshFrontier wsX10_refreshFrontier) := goodIn_app (goodIn_of _ (by decide +kernel)) ggX10_core_X10_refreshFrontier
set_option maxRecDepth 20000 in
theorem ggX10_core_X8_everyItem : GoodIn wsX10_core wsX8_everyItem := goodIn_r _ [138, 139, 172, 173, 174, 175, 176, 177, 178, 179, 180, 181, 182] (by decide +kernel) (by decide +kernel)
set_option maxRecDepth 20000 in
theorem gX10_core_X8_everyItem : GoodIn wsX10_core (wsV RX10 282 RX8 yX8_everyItem wsX8_everyItem) := goodIn_app (goodIn_of _ (by decide +kernel)) ggX10_core_X8_everyItem
theorem dX10_core_0 : decode cX10_core 0 = .ok (.aload_n 0, 1) := by decide +kernel
theorem dX10_core_1 : decode cX10_core 1 = .ok (.invokevirtual 188, 3) := by decide +kernel
theorem dX10_core_4 : decode cX10_core 4 = .ok (.aload_n 0, 1) := by decide +kernel
theorem dX10_core_5 : decode cX10_core 5 = .ok (.getfield 70, 3) := by decide +kernel
theorem dX10_core_8 : decode cX10_core 8 = .ok (.getfield 201, 3) := by decide +kernel
theorem dX10_core_11 : decode cX10_core 11 = .ok (.ifCond .le 13, 3) := by decide +kernel
theorem dX10_core_14 : decode cX10_core 14 = .ok (.aload_n 0, 1) := by decide +kernel
theorem dX10_core_15 : decode cX10_core 15 = .ok (.getfield 27, 3) := by decide +kernel
theorem dX10_core_18 : decode cX10_core 18 = .ok (.invokevirtual 282, 3) := by decide +kernel
theorem dX10_core_21 : decode cX10_core 21 = .ok (.goto 4, 3) := by decide +kernel
theorem dX10_core_24 : decode cX10_core 24 = .ok (.iconst 0, 1) := by decide +kernel
theorem dX10_core_25 : decode cX10_core 25 = .ok (.istore_n 1, 1) := by decide +kernel
theorem dX10_core_26 : decode cX10_core 26 = .ok (.iconst 0, 1) := by decide +kernel
theorem dX10_core_27 : decode cX10_core 27 = .ok (.istore_n 2, 1) := by decide +kernel
theorem dX10_core_28 : decode cX10_core 28 = .ok (.iload_n 2, 1) := by decide +kernel
theorem dX10_core_29 : decode cX10_core 29 = .ok (.aload_n 0, 1) := by decide +kernel
theorem dX10_core_30 : decode cX10_core 30 = .ok (.getfield 70, 3) := by decide +kernel
theorem dX10_core_33 : decode cX10_core 33 = .ok (.getfield 201, 3) := by decide +kernel
theorem dX10_core_36 : decode cX10_core 36 = .ok (.if_icmp .ge 21, 3) := by decide +kernel
theorem dX10_core_39 : decode cX10_core 39 = .ok (.iload_n 1, 1) := by decide +kernel
theorem dX10_core_40 : decode cX10_core 40 = .ok (.aload_n 0, 1) := by decide +kernel
theorem dX10_core_41 : decode cX10_core 41 = .ok (.getfield 70, 3) := by decide +kernel
theorem dX10_core_44 : decode cX10_core 44 = .ok (.getfield 209, 3) := by decide +kernel
theorem dX10_core_47 : decode cX10_core 47 = .ok (.iload_n 2, 1) := by decide +kernel
theorem dX10_core_48 : decode cX10_core 48 = .ok (.iaload, 1) := by decide +kernel
theorem dX10_core_49 : decode cX10_core 49 = .ok (.iand, 1) := by decide +kernel
theorem dX10_core_50 : decode cX10_core 50 = .ok (.istore_n 1, 1) := by decide +kernel
theorem dX10_core_51 : decode cX10_core 51 = .ok (.iinc 2 1, 3) := by decide +kernel
theorem dX10_core_54 : decode cX10_core 54 = .ok (.goto (-26), 3) := by decide +kernel
theorem dX10_core_57 : decode cX10_core 57 = .ok (.iload_n 1, 1) := by decide +kernel
theorem dX10_core_58 : decode cX10_core 58 = .ok (.ireturn, 1) := by decide +kernel
set_option maxRecDepth 20000 in
theorem ggX10_unused_X10_refreshFrontier : GoodIn wsX10_unused wsX10_refreshFrontier := goodIn_r _ [9, 10, 11, 1, 12, 13, 2, 14, 15, 16, 17, 18, 19, 20, 21, 22, 23, 24, 25, 26, 27, 28, 29, 30, 31, 32, 33, 34, 35, 36, 37, 38, 39, 40, 41, 42, 43, 44, 45, 46, 47, 48, 49, 50, 51, 52, 53, 54, 55, 56, 57, 58, 59, 60, 61, 62, 63, 64, 65, 66, 67, 68, 69, 70, 71, 72, 73, 74, 75, 76, 77, 78, 79, 80, 81, 82, 83, 84, 85, 86, 87, 88, 89, 90, 91, 92, 93, 94, 95, 96, 97, 98, 99, 100, 101, 102, 103, 104, 105, 106, 107, 108, 109, 110, 111, 112, 113, 114, 115, 116, 117, 118, 119, 120, 121, 122, 123, 124, 125, 126, 127, 128, 129, 130, 131, 132, 133, 140, 141, 142, 143, 144, 145, 146, 147, 148, 149, 150, 151, 152, 153, 154, 155, 156, 157, 158, 172, 173, 174, 175, 176, 177, 178, 179, 180, 181, 182, 183, 184, 185, 186, 187, 188, 189, 190, 191, 192, 193, 159, 160, 161, 162, 163, 164, 165, 166, 167, 168, 169, 170, 171] (by decide +kernel) (by decide +kernel)
set_option maxRecDepth 20000 in
theorem gX10_unused_X10_refreshFrontier : GoodIn wsX10_unused (wsV RX10 188 RX10 yX10_refreshFrontier wsX10_refreshFrontier) := goodIn_app (goodIn_of _ (by decide +kernel)) ggX10_unused_X10_refreshFrontier
set_option maxRecDepth 20000 in
theorem ggX10_unused_X8_everyItem : GoodIn wsX10_unused wsX8_everyItem := goodIn_r _ [138, 139, 172, 173, 174, 175, 176, 177, 178, 179, 180, 181, 182] (by decide +kernel) (by decide +kernel)
set_option maxRecDepth 20000 in
theorem gX10_unused_X8_everyItem : GoodIn wsX10_unused (wsV RX10 282 RX8 yX8_everyItem wsX8_everyItem) := goodIn_app (goodIn_of _ (by decide +kernel)) ggX10_unused_X8_everyItem
theorem dX10_unused_0 : decode cX10_unused 0 = .ok (.aload_n 0, 1) := by decide +kernel
theorem dX10_unused_1 : decode cX10_unused 1 = .ok (.invokevirtual 188, 3) := by decide +kernel
theorem dX10_unused_4 : decode cX10_unused 4 = .ok (.aload_n 0, 1) := by decide +kernel
theorem dX10_unused_5 : decode cX10_unused 5 = .ok (.getfield 27, 3) := by decide +kernel
theorem dX10_unused_8 : decode cX10_unused 8 = .ok (.invokevirtual 282, 3) := by decide +kernel
theorem dX10_unused_11 : decode cX10_unused 11 = .ok (.istore_n 1, 1) := by decide +kernel
theorem dX10_unused_12 : decode cX10_unused 12 = .ok (.iconst 0, 1) := by decide +kernel
theorem dX10_unused_13 : decode cX10_unused 13 = .ok (.istore_n 2, 1) := by decide +kernel
theorem dX10_unused_14 : decode cX10_unused 14 = .ok (.iload_n 2, 1) := by decide +kernel
theorem dX10_unused_15 : decode cX10_unused 15 = .ok (.aload_n 0, 1) := by decide +kernel
theorem dX10_unused_16 : decode cX10_unused 16 = .ok (.getfield 70, 3) := by decide +kernel
theorem dX10_unused_19 : decode cX10_unused 19 = .ok (.getfield 201, 3) := by decide +kernel
theorem dX10_unused_22 : decode cX10_unused 22 = .ok (.if_icmp .ge 23, 3) := by decide +kernel
theorem dX10_unused_25 : decode cX10_unused 25 = .ok (.iload_n 1, 1) := by decide +kernel
theorem dX10_unused_26 : decode cX10_unused 26 = .ok (.aload_n 0, 1) := by decide +kernel
theorem dX10_unused_27 : decode cX10_unused 27 = .ok (.getfield 70, 3) := by decide +kernel
theorem dX10_unused_30 : decode cX10_unused 30 = .ok (.getfield 209, 3) := by decide +kernel
theorem dX10_unused_33 : decode cX10_unused 33 = .ok (.iload_n 2, 1) := by decide +kernel
theorem dX10_unused_34 : decode cX10_unused 34 = .ok (.iaload, 1) := by decide +kernel
theorem dX10_unused_35 : decode cX10_unused 35 = .ok (.iconst (-1), 1) := by decide +kernel
theorem dX10_unused_36 : decode cX10_unused 36 = .ok (.ixor, 1) := by decide +kernel
theorem dX10_unused_37 : decode cX10_unused 37 = .ok (.iand, 1) := by decide +kernel
theorem dX10_unused_38 : decode cX10_unused 38 = .ok (.istore_n 1, 1) := by decide +kernel
theorem dX10_unused_39 : decode cX10_unused 39 = .ok (.iinc 2 1, 3) := by decide +kernel
theorem dX10_unused_42 : decode cX10_unused 42 = .ok (.goto (-28), 3) := by decide +kernel
theorem dX10_unused_45 : decode cX10_unused 45 = .ok (.iload_n 1, 1) := by decide +kernel
theorem dX10_unused_46 : decode cX10_unused 46 = .ok (.ireturn, 1) := by decide +kernel
set_option maxRecDepth 20000 in
theorem ggX10_lostWithout_X10_requireItem : GoodIn wsX10_lostWithout wsX10_requireItem := goodIn_ca (goodIn_r _ [10, 11, 12, 4, 13, 14, 15, 16, 17, 18, 150, 151, 152, 153, 154, 155, 156, 157, 158, 159, 160, 161, 162, 163, 164, 165, 166, 167, 168, 182, 183, 184, 185, 186, 187, 188, 189, 190, 191, 192] (by decide +kernel) (by decide +kernel)) (goodIn_sub (fun _ h => List.mem_cons_of_mem _ (List.mem_append_right _ h)) (by decide +kernel))
set_option maxRecDepth 20000 in
theorem gX10_lostWithout_X10_requireItem : GoodIn wsX10_lostWithout (wsV RX10 173 RX10 yX10_requireItem wsX10_requireItem) := goodIn_app (goodIn_of _ (by decide +kernel)) ggX10_lostWithout_X10_requireItem
set_option maxRecDepth 20000 in
theorem ggX10_lostWithout_X10_refreshFrontier : GoodIn wsX10_lostWithout wsX10_refreshFrontier := goodIn_r _ [22, 23, 3, 4, 24, 5, 1, 25, 26, 27, 28, 29, 30, 31, 32, 33, 34, 35, 36, 37, 38, 39, 40, 41, 42, 43, 44, 45, 46, 47, 48, 49, 50, 51, 52, 53, 54, 55, 56, 57, 58, 59, 60, 61, 62, 63, 64, 65, 66, 67, 68, 69, 70, 71, 72, 73, 74, 75, 76, 77, 78, 79, 80, 81, 82, 83, 84, 85, 86, 87, 88, 89, 90, 91, 92, 93, 94, 95, 96, 97, 98, 99, 100, 101, 102, 103, 104, 105, 106, 107, 108, 109, 110, 111, 112, 113, 114, 115, 116, 117, 118, 119, 120, 121, 122, 123, 124, 125, 126, 127, 128, 129, 130, 131, 132, 133, 134, 135, 136, 137, 138, 139, 140, 141, 142, 143, 144, 150, 151, 152, 153, 154, 155, 156, 157, 158, 159, 160, 161, 162, 163, 164, 165, 166, 167, 168, 182, 183, 184, 185, 186, 187, 188, 189, 190, 191, 192, 193, 194, 195, 196, 197, 198, 199, 200, 201, 202, 203, 169, 170, 171, 172, 173, 174, 175, 176, 177, 178, 179, 180, 181] (by decide +kernel) (by decide +kernel)
set_option maxRecDepth 20000 in
theorem gX10_lostWithout_X10_refreshFrontier : GoodIn wsX10_lostWithout (wsV RX10 188 RX10 yX10_refreshFrontier wsX10_refreshFrontier) := goodIn_app (goodIn_of _ (by decide +kernel)) ggX10_lostWithout_X10_refreshFrontier
set_option maxRecDepth 20000 in
theorem ggX10_lostWithout_X2_countReached : GoodIn wsX10_lostWithout wsX2_countReached := goodIn_r _ [148, 101, 149, 114, 115, 116, 118, 119, 120, 88, 121, 102, 105, 122, 63, 64, 28, 65, 38, 66, 67, 68, 69, 31, 44, 46, 33, 35, 70, 71, 72, 73, 74, 75, 76, 169, 170, 171, 172, 173, 174, 175, 176, 177, 178, 179, 180, 181, 193, 194, 195, 196, 197, 198, 199, 200, 201] (by decide +kernel) (by decide +kernel)
set_option maxRecDepth 20000 in
theorem gX10_lostWithout_X2_countReached : GoodIn wsX10_lostWithout (wsV RX10 286 RX2 yX2_countReached wsX2_countReached) := goodIn_app (goodIn_of _ (by decide +kernel)) ggX10_lostWithout_X2_countReached
theorem dX10_lostWithout_0 : decode cX10_lostWithout 0 = .ok (.aload_n 0, 1) := by decide +kernel
theorem dX10_lostWithout_1 : decode cX10_lostWithout 1 = .ok (.iload_n 1, 1) := by decide +kernel
theorem dX10_lostWithout_2 : decode cX10_lostWithout 2 = .ok (.invokevirtual 173, 3) := by decide +kernel
theorem dX10_lostWithout_5 : decode cX10_lostWithout 5 = .ok (.aload_n 0, 1) := by decide +kernel
theorem dX10_lostWithout_6 : decode cX10_lostWithout 6 = .ok (.invokevirtual 188, 3) := by decide +kernel
theorem dX10_lostWithout_9 : decode cX10_lostWithout 9 = .ok (.aload_n 0, 1) := by decide +kernel
theorem dX10_lostWithout_10 : decode cX10_lostWithout 10 = .ok (.getfield 70, 3) := by decide +kernel
theorem dX10_lostWithout_13 : decode cX10_lostWithout 13 = .ok (.getfield 201, 3) := by decide +kernel
theorem dX10_lostWithout_16 : decode cX10_lostWithout 16 = .ok (.aload_n 0, 1) := by decide +kernel
theorem dX10_lostWithout_17 : decode cX10_lostWithout 17 = .ok (.getfield 70, 3) := by decide +kernel
theorem dX10_lostWithout_20 : decode cX10_lostWithout 20 = .ok (.aload_n 0, 1) := by decide +kernel
theorem dX10_lostWithout_21 : decode cX10_lostWithout 21 = .ok (.getfield 56, 3) := by decide +kernel
theorem dX10_lostWithout_24 : decode cX10_lostWithout 24 = .ok (.aload_n 0, 1) := by decide +kernel
theorem dX10_lostWithout_25 : decode cX10_lostWithout 25 = .ok (.getfield 27, 3) := by decide +kernel
theorem dX10_lostWithout_28 : decode cX10_lostWithout 28 = .ok (.getfield 147, 3) := by decide +kernel
theorem dX10_lostWithout_31 : decode cX10_lostWithout 31 = .ok (.iconst 1, 1) := by decide +kernel
theorem dX10_lostWithout_32 : decode cX10_lostWithout 32 = .ok (.iload_n 1, 1) := by decide +kernel
theorem dX10_lostWithout_33 : decode cX10_lostWithout 33 = .ok (.ishl, 1) := by decide +kernel
theorem dX10_lostWithout_34 : decode cX10_lostWithout 34 = .ok (.invokevirtual 286, 3) := by decide +kernel
theorem dX10_lostWithout_37 : decode cX10_lostWithout 37 = .ok (.isub, 1) := by decide +kernel
theorem dX10_lostWithout_38 : decode cX10_lostWithout 38 = .ok (.ireturn, 1) := by decide +kernel
set_option maxRecDepth 20000 in
theorem ggX10_worth_X10_requireItem : GoodIn wsX10_worth wsX10_requireItem := goodIn_ca (goodIn_r _ [13, 14, 15, 5, 16, 17, 18, 19, 20, 21, 148, 149, 150, 151, 152, 153, 154, 155, 156, 157, 158, 159, 160, 161, 162, 163, 164, 165, 166, 180, 181, 182, 183, 184, 185, 186, 187, 188, 189, 190] (by decide +kernel) (by decide +kernel)) (goodIn_sub (fun _ h => List.mem_cons_of_mem _ (List.mem_append_right _ h)) (by decide +kernel))
set_option maxRecDepth 20000 in
theorem gX10_worth_X10_requireItem : GoodIn wsX10_worth (wsV RX10 173 RX10 yX10_requireItem wsX10_requireItem) := goodIn_app (goodIn_of _ (by decide +kernel)) ggX10_worth_X10_requireItem
set_option maxRecDepth 20000 in
theorem ggX10_worth_X10_refreshFrontier : GoodIn wsX10_worth wsX10_refreshFrontier := goodIn_r _ [25, 26, 4, 5, 3, 6, 1, 27, 28, 29, 30, 31, 32, 33, 34, 35, 36, 37, 38, 39, 40, 41, 42, 43, 44, 45, 46, 47, 48, 49, 50, 51, 52, 53, 54, 55, 56, 57, 58, 59, 60, 61, 62, 63, 64, 65, 66, 67, 68, 69, 70, 71, 72, 73, 74, 75, 76, 77, 78, 79, 80, 81, 82, 83, 84, 85, 86, 87, 88, 89, 90, 91, 92, 93, 94, 95, 96, 97, 98, 99, 100, 101, 102, 103, 104, 105, 106, 107, 108, 109, 110, 111, 112, 113, 114, 115, 116, 117, 118, 119, 120, 121, 122, 123, 124, 125, 126, 127, 128, 129, 130, 131, 132, 133, 134, 135, 136, 137, 138, 139, 140, 141, 142, 143, 144, 145, 146, 148, 149, 150, 151, 152, 153, 154, 155, 156, 157, 158, 159, 160, 161, 162, 163, 164, 165, 166, 180, 181, 182, 183, 184, 185, 186, 187, 188, 189, 190, 193, 194, 195, 196, 197, 198, 199, 200, 201, 191, 192, 167, 168, 169, 170, 171, 172, 173, 174, 175, 176, 177, 178, 179] (by decide +kernel) (by decide +kernel)
set_option maxRecDepth 20000 in
theorem gX10_worth_X10_refreshFrontier : GoodIn wsX10_worth (wsV RX10 188 RX10 yX10_refreshFrontier wsX10_refreshFrontier) := goodIn_app (goodIn_of _ (by decide +kernel)) ggX10_worth_X10_refreshFrontier
set_option maxRecDepth 20000 in
theorem ggX10_worth_X9_build : GoodIn wsX10_worth wsX9_build := goodIn_r _ [54, 55, 56, 57, 58, 59, 60, 61, 62, 63, 64, 65, 66, 30, 67, 40, 68, 69, 70, 71, 33, 46, 48, 35, 37, 72, 73, 74, 75, 76, 77, 78, 79, 80, 81, 53, 82, 83, 84, 85, 86, 191, 192, 193, 194, 195, 196, 197, 198, 199, 200, 201] (by decide +kernel) (by decide +kernel)
set_option maxRecDepth 20000 in
theorem gX10_worth_X9_build : GoodIn wsX10_worth (wsV RX10 290 RX9 yX9_build wsX9_build) := goodIn_app (goodIn_of _ (by decide +kernel)) ggX10_worth_X9_build
set_option maxRecDepth 20000 in
theorem ggX10_worth_X9_areaBelow : GoodIn wsX10_worth wsX9_areaBelow := goodIn_r _ [98, 55, 191, 192] (by decide +kernel) (by decide +kernel)
set_option maxRecDepth 20000 in
theorem gX10_worth_X9_areaBelow : GoodIn wsX10_worth (wsV RX10 295 RX9 yX9_areaBelow wsX9_areaBelow) := goodIn_app (goodIn_of _ (by decide +kernel)) ggX10_worth_X9_areaBelow
theorem dX10_worth_0 : decode cX10_worth 0 = .ok (.aload_n 0, 1) := by decide +kernel
theorem dX10_worth_1 : decode cX10_worth 1 = .ok (.iload_n 1, 1) := by decide +kernel
theorem dX10_worth_2 : decode cX10_worth 2 = .ok (.invokevirtual 173, 3) := by decide +kernel
theorem dX10_worth_5 : decode cX10_worth 5 = .ok (.aload_n 0, 1) := by decide +kernel
theorem dX10_worth_6 : decode cX10_worth 6 = .ok (.invokevirtual 188, 3) := by decide +kernel
theorem dX10_worth_9 : decode cX10_worth 9 = .ok (.aload_n 0, 1) := by decide +kernel
theorem dX10_worth_10 : decode cX10_worth 10 = .ok (.getfield 70, 3) := by decide +kernel
theorem dX10_worth_13 : decode cX10_worth 13 = .ok (.getfield 198, 3) := by decide +kernel
theorem dX10_worth_16 : decode cX10_worth 16 = .ok (.ifCond .ne 5, 3) := by decide +kernel
theorem dX10_worth_19 : decode cX10_worth 19 = .ok (.iconst 0, 1) := by decide +kernel
theorem dX10_worth_20 : decode cX10_worth 20 = .ok (.ireturn, 1) := by decide +kernel
theorem dX10_worth_21 : decode cX10_worth 21 = .ok (.aload_n 0, 1) := by decide +kernel
theorem dX10_worth_22 : decode cX10_worth 22 = .ok (.getfield 63, 3) := by decide +kernel
theorem dX10_worth_25 : decode cX10_worth 25 = .ok (.aload_n 0, 1) := by decide +kernel
theorem dX10_worth_26 : decode cX10_worth 26 = .ok (.getfield 56, 3) := by decide +kernel
theorem dX10_worth_29 : decode cX10_worth 29 = .ok (.aload_n 0, 1) := by decide +kernel
theorem dX10_worth_30 : decode cX10_worth 30 = .ok (.getfield 27, 3) := by decide +kernel
theorem dX10_worth_33 : decode cX10_worth 33 = .ok (.getfield 147, 3) := by decide +kernel
theorem dX10_worth_36 : decode cX10_worth 36 = .ok (.iconst 1, 1) := by decide +kernel
theorem dX10_worth_37 : decode cX10_worth 37 = .ok (.iload_n 1, 1) := by decide +kernel
theorem dX10_worth_38 : decode cX10_worth 38 = .ok (.ishl, 1) := by decide +kernel
theorem dX10_worth_39 : decode cX10_worth 39 = .ok (.invokevirtual 290, 3) := by decide +kernel
theorem dX10_worth_42 : decode cX10_worth 42 = .ok (.aload_n 0, 1) := by decide +kernel
theorem dX10_worth_43 : decode cX10_worth 43 = .ok (.getfield 63, 3) := by decide +kernel
theorem dX10_worth_46 : decode cX10_worth 46 = .ok (.getfield 294, 3) := by decide +kernel
theorem dX10_worth_49 : decode cX10_worth 49 = .ok (.ifCond .ne 7, 3) := by decide +kernel
theorem dX10_worth_52 : decode cX10_worth 52 = .ok (.iconst (-1), 1) := by decide +kernel
theorem dX10_worth_53 : decode cX10_worth 53 = .ok (.goto 18, 3) := by decide +kernel
theorem dX10_worth_56 : decode cX10_worth 56 = .ok (.aload_n 0, 1) := by decide +kernel
theorem dX10_worth_57 : decode cX10_worth 57 = .ok (.getfield 70, 3) := by decide +kernel
theorem dX10_worth_60 : decode cX10_worth 60 = .ok (.getfield 279, 3) := by decide +kernel
theorem dX10_worth_63 : decode cX10_worth 63 = .ok (.aload_n 0, 1) := by decide +kernel
theorem dX10_worth_64 : decode cX10_worth 64 = .ok (.getfield 63, 3) := by decide +kernel
theorem dX10_worth_67 : decode cX10_worth 67 = .ok (.invokevirtual 295, 3) := by decide +kernel
theorem dX10_worth_70 : decode cX10_worth 70 = .ok (.isub, 1) := by decide +kernel
theorem dX10_worth_71 : decode cX10_worth 71 = .ok (.ireturn, 1) := by decide +kernel
set_option maxRecDepth 20000 in
theorem ggX10_pointsWith_X10_requireCapacity : GoodIn wsX10_pointsWith wsX10_requireCapacity := goodIn_ca (goodIn_r _ [6, 7, 8] (by decide +kernel) (by decide +kernel)) (goodIn_sub (fun _ h => List.mem_cons_of_mem _ (List.mem_append_right _ h)) (by decide +kernel))
set_option maxRecDepth 20000 in
theorem gX10_pointsWith_X10_requireCapacity : GoodIn wsX10_pointsWith (va_wsS RX10 297 yX10_requireCapacity wsX10_requireCapacity) := goodIn_app (goodIn_of _ (by decide +kernel)) ggX10_pointsWith_X10_requireCapacity
set_option maxRecDepth 20000 in
theorem ggX10_pointsWith_X10_refreshFrontier : GoodIn wsX10_pointsWith wsX10_refreshFrontier := goodIn_r _ [12, 13, 2, 14, 1, 15, 16, 17, 18, 19, 20, 21, 22, 23, 24, 25, 26, 27, 28, 29, 30, 31, 32, 33, 34, 35, 36, 37, 38, 39, 40, 41, 42, 43, 44, 45, 46, 47, 48, 49, 50, 51, 52, 53, 54, 55, 56, 57, 58, 59, 60, 61, 62, 63, 64, 65, 66, 67, 68, 69, 70, 71, 72, 73, 74, 75, 76, 77, 78, 79, 80, 81, 82, 83, 84, 85, 86, 87, 88, 89, 90, 91, 92, 93, 94, 95, 96, 97, 98, 99, 100, 101, 102, 103, 104, 105, 106, 107, 108, 109, 110, 111, 112, 113, 114, 115, 116, 117, 118, 119, 120, 121, 122, 123, 124, 125, 126, 127, 128, 129, 130, 131, 132, 133, 134, 135, 136, 141, 142, 143, 144, 145, 146, 147, 148, 149, 150, 151, 152, 153, 154, 155, 156, 157, 158, 159, 160, 161, 162, 163, 164, 165, 166, 167, 168, 169, 170, 171, 172, 173, 174, 175, 176, 177, 178, 179, 180, 181, 182, 183, 184, 185, 186, 187, 188, 189, 190, 191, 192, 193, 194] (by decide +kernel) (by decide +kernel)
set_option maxRecDepth 20000 in
theorem gX10_pointsWith_X10_refreshFrontier : GoodIn wsX10_pointsWith (wsV RX10 188 RX10 yX10_refreshFrontier wsX10_refreshFrontier) := goodIn_app (goodIn_of _ (by decide +kernel)) ggX10_pointsWith_X10_refreshFrontier
set_option maxRecDepth 20000 in
theorem ggX10_pointsWith_X9_build : GoodIn wsX10_pointsWith wsX9_build := goodIn_r _ [44, 45, 46, 47, 48, 49, 50, 51, 52, 53, 54, 55, 56, 20, 57, 30, 58, 59, 60, 61, 23, 36, 38, 25, 27, 62, 63, 64, 65, 66, 67, 68, 69, 70, 71, 43, 72, 73, 74, 75, 76, 180, 181, 171, 172, 173, 174, 175, 176, 177, 178, 179] (by decide +kernel) (by decide +kernel)
set_option maxRecDepth 20000 in
theorem gX10_pointsWith_X9_build : GoodIn wsX10_pointsWith (wsV RX10 290 RX9 yX9_build wsX9_build) := goodIn_app (goodIn_of _ (by decide +kernel)) ggX10_pointsWith_X9_build
set_option maxRecDepth 20000 in
theorem ggX10_pointsWith_X9_countCorners : GoodIn wsX10_pointsWith wsX9_countCorners := goodIn_r _ [140, 45, 180, 181] (by decide +kernel) (by decide +kernel)
set_option maxRecDepth 20000 in
theorem gX10_pointsWith_X9_countCorners : GoodIn wsX10_pointsWith (wsV RX10 300 RX9 yX9_countCorners wsX9_countCorners) := goodIn_app (goodIn_of _ (by decide +kernel)) ggX10_pointsWith_X9_countCorners
theorem dX10_pointsWith_0 : decode cX10_pointsWith 0 = .ok (.iload_n 1, 1) := by decide +kernel
theorem dX10_pointsWith_1 : decode cX10_pointsWith 1 = .ok (.invokestatic 297, 3) := by decide +kernel
theorem dX10_pointsWith_4 : decode cX10_pointsWith 4 = .ok (.aload_n 0, 1) := by decide +kernel
theorem dX10_pointsWith_5 : decode cX10_pointsWith 5 = .ok (.invokevirtual 188, 3) := by decide +kernel
theorem dX10_pointsWith_8 : decode cX10_pointsWith 8 = .ok (.aload_n 0, 1) := by decide +kernel
theorem dX10_pointsWith_9 : decode cX10_pointsWith 9 = .ok (.getfield 63, 3) := by decide +kernel
theorem dX10_pointsWith_12 : decode cX10_pointsWith 12 = .ok (.aload_n 0, 1) := by decide +kernel
theorem dX10_pointsWith_13 : decode cX10_pointsWith 13 = .ok (.getfield 56, 3) := by decide +kernel
theorem dX10_pointsWith_16 : decode cX10_pointsWith 16 = .ok (.iload_n 1, 1) := by decide +kernel
theorem dX10_pointsWith_17 : decode cX10_pointsWith 17 = .ok (.iconst 0, 1) := by decide +kernel
theorem dX10_pointsWith_18 : decode cX10_pointsWith 18 = .ok (.invokevirtual 290, 3) := by decide +kernel
theorem dX10_pointsWith_21 : decode cX10_pointsWith 21 = .ok (.aload_n 0, 1) := by decide +kernel
theorem dX10_pointsWith_22 : decode cX10_pointsWith 22 = .ok (.getfield 63, 3) := by decide +kernel
theorem dX10_pointsWith_25 : decode cX10_pointsWith 25 = .ok (.invokevirtual 300, 3) := by decide +kernel
theorem dX10_pointsWith_28 : decode cX10_pointsWith 28 = .ok (.ireturn, 1) := by decide +kernel
set_option maxRecDepth 20000 in
theorem ggX10_capacityFor_X10_refreshFrontier : GoodIn wsX10_capacityFor wsX10_refreshFrontier := goodIn_r _ [6, 7, 1, 8, 9, 10, 11, 12, 13, 14, 15, 16, 17, 18, 19, 20, 21, 22, 23, 24, 25, 26, 27, 28, 29, 30, 31, 32, 33, 34, 35, 36, 37, 38, 39, 40, 41, 42, 43, 44, 45, 46, 47, 48, 49, 50, 51, 52, 53, 54, 55, 56, 57, 58, 59, 60, 61, 62, 63, 64, 65, 66, 67, 68, 69, 70, 71, 72, 73, 74, 75, 76, 77, 78, 79, 80, 81, 82, 83, 84, 85, 86, 87, 88, 89, 90, 91, 92, 93, 94, 95, 96, 97, 98, 99, 100, 101, 102, 103, 104, 105, 106, 107, 108, 109, 110, 111, 112, 113, 114, 115, 116, 117, 118, 119, 120, 121, 122, 123, 124, 125, 126, 127, 128, 129, 130, 131, 136, 137, 138, 139, 140, 141, 142, 143, 144, 145, 146, 147, 148, 149, 150, 151, 152, 153, 154, 155, 156, 157, 158, 159, 160, 161, 162, 163, 164, 165, 166, 167, 168, 169, 170, 171, 172, 173, 174, 175, 176, 177, 178, 179, 180, 181, 182, 183, 184, 185, 186, 187, 188, 189] (by decide +kernel) (by decide +kernel)
set_option maxRecDepth 20000 in
theorem gX10_capacityFor_X10_refreshFrontier : GoodIn wsX10_capacityFor (wsV RX10 188 RX10 yX10_refreshFrontier wsX10_refreshFrontier) := goodIn_app (goodIn_of _ (by decide +kernel)) ggX10_capacityFor_X10_refreshFrontier
set_option maxRecDepth 20000 in
theorem ggX10_capacityFor_X0_leastWeight : GoodIn wsX10_capacityFor wsX0_leastWeight := goodIn_r _ [135, 23, 25, 27, 29, 53, 54, 55, 15, 56, 18, 31, 33, 20, 22, 57, 58, 59, 60, 61, 62, 63, 166, 167, 168, 169, 170, 171, 172, 173, 174] (by decide +kernel) (by decide +kernel)
set_option maxRecDepth 20000 in
theorem gX10_capacityFor_X0_leastWeight : GoodIn wsX10_capacityFor (wsV RX10 303 RX0 yX0_leastWeight wsX0_leastWeight) := goodIn_app (goodIn_of _ (by decide +kernel)) ggX10_capacityFor_X0_leastWeight
theorem dX10_capacityFor_0 : decode cX10_capacityFor 0 = .ok (.aload_n 0, 1) := by decide +kernel
theorem dX10_capacityFor_1 : decode cX10_capacityFor 1 = .ok (.invokevirtual 188, 3) := by decide +kernel
theorem dX10_capacityFor_4 : decode cX10_capacityFor 4 = .ok (.aload_n 0, 1) := by decide +kernel
theorem dX10_capacityFor_5 : decode cX10_capacityFor 5 = .ok (.getfield 56, 3) := by decide +kernel
theorem dX10_capacityFor_8 : decode cX10_capacityFor 8 = .ok (.iload_n 1, 1) := by decide +kernel
theorem dX10_capacityFor_9 : decode cX10_capacityFor 9 = .ok (.iload_n 2, 1) := by decide +kernel
theorem dX10_capacityFor_10 : decode cX10_capacityFor 10 = .ok (.invokevirtual 303, 3) := by decide +kernel
theorem dX10_capacityFor_13 : decode cX10_capacityFor 13 = .ok (.ireturn, 1) := by decide +kernel
set_option maxRecDepth 20000 in
theorem ggX10_nearTo_X10_requireSet : GoodIn wsX10_nearTo wsX10_requireSet := goodIn_ca (goodIn_r _ [8, 9, 10, 11, 12, 13, 14, 15, 16, 17, 147, 148, 149, 150, 151, 152, 153, 154, 155, 156, 157, 158, 159, 160, 161, 162, 163, 164, 165, 179, 180, 181, 182, 183, 184, 185, 186, 187, 188, 189] (by decide +kernel) (by decide +kernel)) (goodIn_sub (fun _ h => List.mem_cons_of_mem _ (List.mem_append_right _ h)) (by decide +kernel))
set_option maxRecDepth 20000 in
theorem gX10_nearTo_X10_requireSet : GoodIn wsX10_nearTo (wsV RX10 185 RX10 yX10_requireSet wsX10_requireSet) := goodIn_app (goodIn_of _ (by decide +kernel)) ggX10_nearTo_X10_requireSet
set_option maxRecDepth 20000 in
theorem ggX10_nearTo_X10_refreshFrontier : GoodIn wsX10_nearTo wsX10_refreshFrontier := goodIn_r _ [21, 22, 23, 11, 24, 25, 1, 26, 27, 28, 29, 30, 31, 32, 33, 34, 35, 36, 37, 38, 39, 40, 41, 42, 43, 44, 45, 46, 47, 48, 49, 50, 51, 52, 53, 54, 55, 56, 57, 58, 59, 60, 61, 62, 63, 64, 65, 66, 67, 68, 69, 70, 71, 72, 73, 74, 75, 76, 77, 78, 79, 80, 81, 82, 83, 84, 85, 86, 87, 88, 89, 90, 91, 92, 93, 94, 95, 96, 97, 98, 99, 100, 101, 102, 103, 104, 105, 106, 107, 108, 109, 110, 111, 112, 113, 114, 115, 116, 117, 118, 119, 120, 121, 122, 123, 124, 125, 126, 127, 128, 129, 130, 131, 132, 133, 134, 135, 136, 137, 138, 139, 140, 141, 142, 143, 144, 145, 147, 148, 149, 150, 151, 152, 153, 154, 155, 156, 157, 158, 159, 160, 161, 162, 163, 164, 165, 179, 180, 181, 182, 183, 184, 185, 186, 187, 188, 189, 190, 191, 192, 193, 194, 195, 196, 197, 198, 199, 200, 166, 167, 168, 169, 170, 171, 172, 173, 174, 175, 176, 177, 178] (by decide +kernel) (by decide +kernel)
set_option maxRecDepth 20000 in
theorem gX10_nearTo_X10_refreshFrontier : GoodIn wsX10_nearTo (wsV RX10 188 RX10 yX10_refreshFrontier wsX10_refreshFrontier) := goodIn_app (goodIn_of _ (by decide +kernel)) ggX10_nearTo_X10_refreshFrontier
set_option maxRecDepth 20000 in
theorem ggX10_nearTo_J6_bitCount_0f7a4 : GoodIn wsX10_nearTo wsJ6_bitCount_0f7a4 := goodIn_r _ [74, 75, 76, 77] (by decide +kernel) (by decide +kernel)
set_option maxRecDepth 20000 in
theorem gX10_nearTo_J6_bitCount_0f7a4 : GoodIn wsX10_nearTo (va_wsS RX10 306 yJ6_bitCount_0f7a4 wsJ6_bitCount_0f7a4) := goodIn_app (goodIn_of _ (by decide +kernel)) ggX10_nearTo_J6_bitCount_0f7a4
theorem dX10_nearTo_0 : decode cX10_nearTo 0 = .ok (.aload_n 0, 1) := by decide +kernel
theorem dX10_nearTo_1 : decode cX10_nearTo 1 = .ok (.iload_n 1, 1) := by decide +kernel
theorem dX10_nearTo_2 : decode cX10_nearTo 2 = .ok (.invokevirtual 185, 3) := by decide +kernel
theorem dX10_nearTo_5 : decode cX10_nearTo 5 = .ok (.aload_n 0, 1) := by decide +kernel
theorem dX10_nearTo_6 : decode cX10_nearTo 6 = .ok (.invokevirtual 188, 3) := by decide +kernel
theorem dX10_nearTo_9 : decode cX10_nearTo 9 = .ok (.iconst (-1), 1) := by decide +kernel
theorem dX10_nearTo_10 : decode cX10_nearTo 10 = .ok (.istore_n 2, 1) := by decide +kernel
theorem dX10_nearTo_11 : decode cX10_nearTo 11 = .ok (.bipush 13, 2) := by decide +kernel
theorem dX10_nearTo_13 : decode cX10_nearTo 13 = .ok (.istore_n 3, 1) := by decide +kernel
theorem dX10_nearTo_14 : decode cX10_nearTo 14 = .ok (.iconst 0, 1) := by decide +kernel
theorem dX10_nearTo_15 : decode cX10_nearTo 15 = .ok (.istore 4, 2) := by decide +kernel
theorem dX10_nearTo_17 : decode cX10_nearTo 17 = .ok (.iload 4, 2) := by decide +kernel
theorem dX10_nearTo_19 : decode cX10_nearTo 19 = .ok (.aload_n 0, 1) := by decide +kernel
theorem dX10_nearTo_20 : decode cX10_nearTo 20 = .ok (.getfield 70, 3) := by decide +kernel
theorem dX10_nearTo_23 : decode cX10_nearTo 23 = .ok (.getfield 201, 3) := by decide +kernel
theorem dX10_nearTo_26 : decode cX10_nearTo 26 = .ok (.if_icmp .ge 38, 3) := by decide +kernel
theorem dX10_nearTo_29 : decode cX10_nearTo 29 = .ok (.aload_n 0, 1) := by decide +kernel
theorem dX10_nearTo_30 : decode cX10_nearTo 30 = .ok (.getfield 70, 3) := by decide +kernel
theorem dX10_nearTo_33 : decode cX10_nearTo 33 = .ok (.getfield 209, 3) := by decide +kernel
theorem dX10_nearTo_36 : decode cX10_nearTo 36 = .ok (.iload 4, 2) := by decide +kernel
theorem dX10_nearTo_38 : decode cX10_nearTo 38 = .ok (.iaload, 1) := by decide +kernel
theorem dX10_nearTo_39 : decode cX10_nearTo 39 = .ok (.iload_n 1, 1) := by decide +kernel
theorem dX10_nearTo_40 : decode cX10_nearTo 40 = .ok (.ixor, 1) := by decide +kernel
theorem dX10_nearTo_41 : decode cX10_nearTo 41 = .ok (.invokestatic 306, 3) := by decide +kernel
theorem dX10_nearTo_44 : decode cX10_nearTo 44 = .ok (.istore 5, 2) := by decide +kernel
theorem dX10_nearTo_46 : decode cX10_nearTo 46 = .ok (.iload 5, 2) := by decide +kernel
theorem dX10_nearTo_48 : decode cX10_nearTo 48 = .ok (.iload_n 3, 1) := by decide +kernel
theorem dX10_nearTo_49 : decode cX10_nearTo 49 = .ok (.if_icmp .ge 9, 3) := by decide +kernel
theorem dX10_nearTo_52 : decode cX10_nearTo 52 = .ok (.iload 5, 2) := by decide +kernel
theorem dX10_nearTo_54 : decode cX10_nearTo 54 = .ok (.istore_n 3, 1) := by decide +kernel
theorem dX10_nearTo_55 : decode cX10_nearTo 55 = .ok (.iload 4, 2) := by decide +kernel
theorem dX10_nearTo_57 : decode cX10_nearTo 57 = .ok (.istore_n 2, 1) := by decide +kernel
theorem dX10_nearTo_58 : decode cX10_nearTo 58 = .ok (.iinc 4 1, 3) := by decide +kernel
theorem dX10_nearTo_61 : decode cX10_nearTo 61 = .ok (.goto (-44), 3) := by decide +kernel
theorem dX10_nearTo_64 : decode cX10_nearTo 64 = .ok (.iload_n 2, 1) := by decide +kernel
theorem dX10_nearTo_65 : decode cX10_nearTo 65 = .ok (.ireturn, 1) := by decide +kernel
set_option maxRecDepth 20000 in
theorem ggX10_apart_X10_requirePoint : GoodIn wsX10_apart wsX10_requirePoint := goodIn_ca (goodIn_r _ [7, 8, 9, 1, 10, 11, 12, 13, 6, 14, 15, 16, 17, 18, 19, 20, 21, 22, 23, 24, 25, 26, 27, 28, 29, 30, 31, 32, 33, 34, 35, 36, 37, 38, 39, 40, 41, 42, 43, 44, 45, 46, 47, 48, 49, 50, 51, 52, 53, 54, 55, 56, 57, 58, 59, 60, 61, 62, 63, 64, 65, 66, 67, 68, 69, 70, 71, 72, 73, 74, 75, 76, 77, 78, 79, 80, 81, 82, 83, 84, 85, 86, 87, 88, 89, 90, 91, 92, 93, 94, 95, 96, 97, 98, 99, 100, 101, 102, 103, 104, 105, 106, 107, 108, 109, 110, 111, 112, 113, 114, 115, 116, 117, 118, 119, 120, 121, 122, 123, 124, 125, 126, 127, 128, 129, 130, 131, 132, 133, 134, 135, 136, 137, 138, 139, 141, 142, 143, 144, 145, 146, 147, 148, 149, 150, 151, 152, 153, 154, 155, 156, 157, 158, 159, 160, 161, 162, 163, 164, 165, 166, 167, 168, 169, 170, 171, 172, 173, 174, 175, 176, 177, 178, 179, 180, 181, 182, 183, 184, 185, 186, 187, 188, 189, 190, 191, 192, 193, 194] (by decide +kernel) (by decide +kernel)) (goodIn_sub (fun _ h => List.mem_cons_of_mem _ (List.mem_append_right _ h)) (by decide +kernel))
set_option maxRecDepth 20000 in
theorem gX10_apart_X10_requirePoint : GoodIn wsX10_apart (wsV RX10 204 RX10 yX10_requirePoint wsX10_requirePoint) := goodIn_app (goodIn_of _ (by decide +kernel)) ggX10_apart_X10_requirePoint
set_option maxRecDepth 20000 in
theorem ggX10_apart_J6_bitCount_0f7a4 : GoodIn wsX10_apart wsJ6_bitCount_0f7a4 := goodIn_r _ [68, 69, 70, 71] (by decide +kernel) (by decide +kernel)
set_option maxRecDepth 20000 in
theorem gX10_apart_J6_bitCount_0f7a4 : GoodIn wsX10_apart (va_wsS RX10 306 yJ6_bitCount_0f7a4 wsJ6_bitCount_0f7a4) := goodIn_app (goodIn_of _ (by decide +kernel)) ggX10_apart_J6_bitCount_0f7a4
theorem dX10_apart_0 : decode cX10_apart 0 = .ok (.aload_n 0, 1) := by decide +kernel
theorem dX10_apart_1 : decode cX10_apart 1 = .ok (.iload_n 1, 1) := by decide +kernel
theorem dX10_apart_2 : decode cX10_apart 2 = .ok (.invokevirtual 204, 3) := by decide +kernel
theorem dX10_apart_5 : decode cX10_apart 5 = .ok (.aload_n 0, 1) := by decide +kernel
theorem dX10_apart_6 : decode cX10_apart 6 = .ok (.iload_n 2, 1) := by decide +kernel
theorem dX10_apart_7 : decode cX10_apart 7 = .ok (.invokevirtual 204, 3) := by decide +kernel
theorem dX10_apart_10 : decode cX10_apart 10 = .ok (.aload_n 0, 1) := by decide +kernel
theorem dX10_apart_11 : decode cX10_apart 11 = .ok (.getfield 70, 3) := by decide +kernel
theorem dX10_apart_14 : decode cX10_apart 14 = .ok (.getfield 209, 3) := by decide +kernel
theorem dX10_apart_17 : decode cX10_apart 17 = .ok (.iload_n 1, 1) := by decide +kernel
theorem dX10_apart_18 : decode cX10_apart 18 = .ok (.iaload, 1) := by decide +kernel
theorem dX10_apart_19 : decode cX10_apart 19 = .ok (.aload_n 0, 1) := by decide +kernel
theorem dX10_apart_20 : decode cX10_apart 20 = .ok (.getfield 70, 3) := by decide +kernel
theorem dX10_apart_23 : decode cX10_apart 23 = .ok (.getfield 209, 3) := by decide +kernel
theorem dX10_apart_26 : decode cX10_apart 26 = .ok (.iload_n 2, 1) := by decide +kernel
theorem dX10_apart_27 : decode cX10_apart 27 = .ok (.iaload, 1) := by decide +kernel
theorem dX10_apart_28 : decode cX10_apart 28 = .ok (.ixor, 1) := by decide +kernel
theorem dX10_apart_29 : decode cX10_apart 29 = .ok (.invokestatic 306, 3) := by decide +kernel
theorem dX10_apart_32 : decode cX10_apart 32 = .ok (.ireturn, 1) := by decide +kernel
set_option maxRecDepth 20000 in
theorem ggX10_layers_X10_refreshLayers : GoodIn wsX10_layers wsX10_refreshLayers := goodIn_r _ [7, 8, 1, 9, 10, 11, 12, 13, 14, 6, 15, 16, 17, 18, 19, 20, 21, 22, 23, 24, 25, 26, 27, 28, 29, 30, 31, 32, 33, 34, 35, 36, 37, 38, 39, 40, 41, 42, 43, 44, 45, 46, 47, 48, 49, 50, 51, 52, 53, 54, 55, 56, 57, 58, 59, 60, 61, 62, 63, 64, 65, 66, 67, 68, 69, 70, 71, 72, 73, 74, 75, 76, 77, 78, 79, 80, 81, 82, 83, 84, 85, 86, 87, 88, 89, 90, 91, 92, 93, 94, 95, 96, 97, 98, 99, 100, 101, 102, 103, 104, 105, 106, 107, 108, 109, 110, 111, 112, 113, 114, 115, 116, 117, 118, 119, 120, 121, 122, 123, 124, 125, 126, 127, 128, 129, 130, 131, 132, 133, 134, 135, 136, 137, 138, 139, 140, 141, 142, 143, 144, 145, 146, 147, 148, 149, 150, 151, 152, 153, 154, 155, 156, 157, 158, 159, 160, 161, 162, 163, 164, 165, 166, 167, 168, 169, 170, 171, 172, 173, 174, 175, 176, 177, 178, 179, 180, 181, 182, 183, 184, 185, 186, 187, 188, 189, 190, 191, 192, 193, 194, 195, 196, 197, 198, 207, 208, 209, 210, 211, 212, 213, 214, 215, 216, 217, 218, 219, 220, 221, 222, 223, 224, 225, 226, 227, 228, 229, 230, 231, 232, 233, 234, 235, 236, 237, 238, 239, 240, 241, 199, 200, 201, 202, 203, 204, 205, 206] (by decide +kernel) (by decide +kernel)
set_option maxRecDepth 20000 in
theorem gX10_layers_X10_refreshLayers : GoodIn wsX10_layers (wsV RX10 312 RX10 yX10_refreshLayers wsX10_refreshLayers) := goodIn_app (goodIn_of _ (by decide +kernel)) ggX10_layers_X10_refreshLayers
theorem dX10_layers_0 : decode cX10_layers 0 = .ok (.aload_n 0, 1) := by decide +kernel
theorem dX10_layers_1 : decode cX10_layers 1 = .ok (.invokevirtual 312, 3) := by decide +kernel
theorem dX10_layers_4 : decode cX10_layers 4 = .ok (.aload_n 0, 1) := by decide +kernel
theorem dX10_layers_5 : decode cX10_layers 5 = .ok (.getfield 84, 3) := by decide +kernel
theorem dX10_layers_8 : decode cX10_layers 8 = .ok (.getfield 315, 3) := by decide +kernel
theorem dX10_layers_11 : decode cX10_layers 11 = .ok (.ireturn, 1) := by decide +kernel
set_option maxRecDepth 20000 in
theorem ggX10_layerSize_X10_refreshLayers : GoodIn wsX10_layerSize wsX10_refreshLayers := goodIn_r _ [10, 11, 3, 12, 13, 14, 15, 16, 17, 9, 18, 19, 20, 21, 22, 23, 24, 25, 26, 27, 28, 29, 30, 31, 32, 33, 34, 35, 36, 37, 38, 39, 40, 41, 42, 43, 44, 45, 46, 47, 48, 49, 50, 51, 52, 53, 54, 55, 56, 57, 58, 59, 60, 61, 62, 63, 64, 65, 66, 67, 68, 69, 70, 71, 72, 73, 74, 75, 76, 77, 78, 79, 80, 81, 82, 83, 84, 85, 86, 87, 88, 89, 90, 91, 92, 93, 94, 95, 96, 97, 98, 99, 100, 101, 102, 103, 104, 105, 106, 107, 108, 109, 110, 111, 112, 113, 114, 115, 116, 117, 118, 119, 120, 121, 122, 123, 124, 125, 126, 127, 128, 129, 130, 131, 132, 133, 134, 135, 136, 137, 138, 139, 140, 141, 142, 143, 144, 145, 146, 147, 148, 149, 150, 151, 152, 153, 154, 155, 156, 157, 158, 159, 160, 161, 162, 163, 164, 165, 166, 167, 168, 169, 170, 171, 172, 173, 174, 175, 176, 177, 178, 179, 180, 181, 182, 183, 184, 185, 186, 187, 188, 189, 190, 191, 192, 193, 194, 195, 196, 197, 198, 199, 200, 201, 210, 211, 212, 213, 214, 215, 216, 217, 218, 219, 220, 221, 222, 223, 224, 225, 226, 227, 228, 229, 230, 231, 232, 233, 234, 235, 236, 237, 238, 239, 240, 241, 242, 243, 244, 202, 203, 204, 205, 206, 207, 208, 209] (by decide +kernel) (by decide +kernel)
set_option maxRecDepth 20000 in
theorem gX10_layerSize_X10_refreshLayers : GoodIn wsX10_layerSize (wsV RX10 312 RX10 yX10_refreshLayers wsX10_refreshLayers) := goodIn_app (goodIn_of _ (by decide +kernel)) ggX10_layerSize_X10_refreshLayers
theorem dX10_layerSize_0 : decode cX10_layerSize 0 = .ok (.aload_n 0, 1) := by decide +kernel
theorem dX10_layerSize_1 : decode cX10_layerSize 1 = .ok (.invokevirtual 312, 3) := by decide +kernel
theorem dX10_layerSize_4 : decode cX10_layerSize 4 = .ok (.iload_n 1, 1) := by decide +kernel
theorem dX10_layerSize_5 : decode cX10_layerSize 5 = .ok (.ifCond .lt 14, 3) := by decide +kernel
theorem dX10_layerSize_8 : decode cX10_layerSize 8 = .ok (.iload_n 1, 1) := by decide +kernel
theorem dX10_layerSize_9 : decode cX10_layerSize 9 = .ok (.aload_n 0, 1) := by decide +kernel
theorem dX10_layerSize_10 : decode cX10_layerSize 10 = .ok (.getfield 84, 3) := by decide +kernel
theorem dX10_layerSize_13 : decode cX10_layerSize 13 = .ok (.getfield 315, 3) := by decide +kernel
theorem dX10_layerSize_16 : decode cX10_layerSize 16 = .ok (.if_icmp .lt 14, 3) := by decide +kernel
theorem dX10_layerSize_19 : decode cX10_layerSize 19 = .ok (.new 240, 3) := by decide +kernel
theorem dX10_layerSize_22 : decode cX10_layerSize 22 = .ok (.dup, 1) := by decide +kernel
theorem dX10_layerSize_23 : decode cX10_layerSize 23 = .ok (.ldc_w 316, 3) := by decide +kernel
theorem dX10_layerSize_26 : decode cX10_layerSize 26 = .ok (.invokespecial 244, 3) := by decide +kernel
theorem dX10_layerSize_29 : decode cX10_layerSize 29 = .ok (.athrow, 1) := by decide +kernel
theorem dX10_layerSize_30 : decode cX10_layerSize 30 = .ok (.aload_n 0, 1) := by decide +kernel
theorem dX10_layerSize_31 : decode cX10_layerSize 31 = .ok (.getfield 84, 3) := by decide +kernel
theorem dX10_layerSize_34 : decode cX10_layerSize 34 = .ok (.getfield 318, 3) := by decide +kernel
theorem dX10_layerSize_37 : decode cX10_layerSize 37 = .ok (.iload_n 1, 1) := by decide +kernel
theorem dX10_layerSize_38 : decode cX10_layerSize 38 = .ok (.iaload, 1) := by decide +kernel
theorem dX10_layerSize_39 : decode cX10_layerSize 39 = .ok (.ireturn, 1) := by decide +kernel
set_option maxRecDepth 20000 in
theorem ggX10_layerOf_X10_requireSet : GoodIn wsX10_layerOf wsX10_requireSet := goodIn_ca (goodIn_r _ [7, 8, 9, 10, 11, 12, 13, 14, 15, 16, 192, 193, 194, 195, 196, 197, 198, 199, 200, 201, 202, 203, 204, 205, 206, 207, 208, 209, 210, 219, 220, 221, 222, 223, 224, 225, 226, 227, 228, 229] (by decide +kernel) (by decide +kernel)) (goodIn_sub (fun _ h => List.mem_cons_of_mem _ (List.mem_append_right _ h)) (by decide +kernel))
set_option maxRecDepth 20000 in
theorem gX10_layerOf_X10_requireSet : GoodIn wsX10_layerOf (wsV RX10 185 RX10 yX10_requireSet wsX10_requireSet) := goodIn_app (goodIn_of _ (by decide +kernel)) ggX10_layerOf_X10_requireSet
set_option maxRecDepth 20000 in
theorem ggX10_layerOf_X10_refreshLayers : GoodIn wsX10_layerOf wsX10_refreshLayers := goodIn_r _ [20, 21, 1, 22, 10, 23, 24, 25, 26, 6, 27, 28, 29, 30, 31, 32, 33, 34, 35, 36, 37, 38, 39, 40, 41, 42, 43, 44, 45, 46, 47, 48, 49, 50, 51, 52, 53, 54, 55, 56, 57, 58, 59, 60, 61, 62, 63, 64, 65, 66, 67, 68, 69, 70, 71, 72, 73, 74, 75, 76, 77, 78, 79, 80, 81, 82, 83, 84, 85, 86, 87, 88, 89, 90, 91, 92, 93, 94, 95, 96, 97, 98, 99, 100, 101, 102, 103, 104, 105, 106, 107, 108, 109, 110, 111, 112, 113, 114, 115, 116, 117, 118, 119, 120, 121, 122, 123, 124, 125, 126, 127, 128, 129, 130, 131, 132, 133, 134, 135, 136, 137, 138, 139, 140, 141, 142, 143, 144, 145, 146, 147, 148, 149, 150, 151, 152, 153, 154, 155, 156, 157, 158, 159, 160, 161, 162, 163, 164, 165, 166, 167, 168, 169, 170, 171, 172, 173, 174, 175, 176, 177, 178, 179, 180, 181, 182, 183, 184, 185, 186, 187, 188, 189, 190, 191, 192, 193, 194, 195, 196, 197, 198, 199, 200, 201, 202, 203, 204, 205, 206, 207, 208, 209, 210, 219, 220, 221, 222, 223, 224, 225, 226, 227, 228, 229, 230, 231, 232, 233, 234, 235, 236, 237, 238, 239, 240, 241, 242, 243, 244, 245, 246, 247, 248, 249, 250, 251, 252, 253, 211, 212, 213, 214, 215, 216, 217, 218] (by decide +kernel) (by decide +kernel)
set_option maxRecDepth 20000 in
theorem gX10_layerOf_X10_refreshLayers : GoodIn wsX10_layerOf (wsV RX10 312 RX10 yX10_refreshLayers wsX10_refreshLayers) := goodIn_app (goodIn_of _ (by decide +kernel)) ggX10_layerOf_X10_refreshLayers
theorem dX10_layerOf_0 : decode cX10_layerOf 0 = .ok (.aload_n 0, 1) := by decide +kernel
theorem dX10_layerOf_1 : decode cX10_layerOf 1 = .ok (.iload_n 1, 1) := by decide +kernel
theorem dX10_layerOf_2 : decode cX10_layerOf 2 = .ok (.invokevirtual 185, 3) := by decide +kernel
theorem dX10_layerOf_5 : decode cX10_layerOf 5 = .ok (.aload_n 0, 1) := by decide +kernel
theorem dX10_layerOf_6 : decode cX10_layerOf 6 = .ok (.invokevirtual 312, 3) := by decide +kernel
theorem dX10_layerOf_9 : decode cX10_layerOf 9 = .ok (.aload_n 0, 1) := by decide +kernel
theorem dX10_layerOf_10 : decode cX10_layerOf 10 = .ok (.getfield 84, 3) := by decide +kernel
theorem dX10_layerOf_13 : decode cX10_layerOf 13 = .ok (.getfield 320, 3) := by decide +kernel
theorem dX10_layerOf_16 : decode cX10_layerOf 16 = .ok (.iload_n 1, 1) := by decide +kernel
theorem dX10_layerOf_17 : decode cX10_layerOf 17 = .ok (.iaload, 1) := by decide +kernel
theorem dX10_layerOf_18 : decode cX10_layerOf 18 = .ok (.ireturn, 1) := by decide +kernel
set_option maxRecDepth 20000 in
theorem ggX10_climb_X10_requireWeights : GoodIn wsX10_climb wsX10_requireWeights := goodIn_ca (goodIn_r _ [8, 9, 10, 11, 12, 7, 13] (by decide +kernel) (by decide +kernel)) (goodIn_sub (fun _ h => List.mem_cons_of_mem _ (List.mem_append_right _ h)) (by decide +kernel))
set_option maxRecDepth 20000 in
theorem gX10_climb_X10_requireWeights : GoodIn wsX10_climb (va_wsS RX10 228 yX10_requireWeights wsX10_requireWeights) := goodIn_app (goodIn_of _ (by decide +kernel)) ggX10_climb_X10_requireWeights
set_option maxRecDepth 20000 in
theorem ggX10_climb_X10_refreshFrontier : GoodIn wsX10_climb wsX10_refreshFrontier := goodIn_r _ [17, 18, 2, 3, 19, 20, 21, 22, 23, 24, 25, 26, 27, 28, 29, 30, 31, 32, 33, 34, 35, 36, 37, 38, 39, 40, 41, 42, 43, 44, 45, 46, 47, 48, 49, 50, 51, 52, 53, 54, 55, 56, 57, 58, 59, 60, 61, 62, 63, 64, 65, 66, 67, 68, 69, 70, 71, 72, 73, 74, 75, 76, 77, 78, 79, 80, 81, 82, 83, 84, 85, 86, 87, 88, 89, 90, 91, 92, 93, 94, 95, 96, 97, 98, 99, 100, 101, 102, 103, 104, 105, 106, 107, 108, 109, 110, 111, 112, 113, 114, 115, 116, 117, 118, 119, 120, 121, 122, 123, 124, 125, 126, 127, 128, 129, 130, 131, 132, 133, 134, 135, 136, 137, 138, 139, 140, 141, 170, 171, 172, 173, 174, 175, 176, 177, 178, 179, 180, 181, 182, 183, 184, 185, 186, 187, 188, 193, 194, 195, 196, 197, 198, 199, 200, 201, 202, 203, 204, 205, 206, 207, 208, 209, 210, 211, 212, 213, 214, 215, 216, 217, 218, 219, 220, 221, 222, 223, 224, 225, 226, 227] (by decide +kernel) (by decide +kernel)
set_option maxRecDepth 20000 in
theorem gX10_climb_X10_refreshFrontier : GoodIn wsX10_climb (wsV RX10 188 RX10 yX10_refreshFrontier wsX10_refreshFrontier) := goodIn_app (goodIn_of _ (by decide +kernel)) ggX10_climb_X10_refreshFrontier
set_option maxRecDepth 20000 in
theorem ggX10_climb_X1_run : GoodIn wsX10_climb wsX1_run := goodIn_r _ [146, 147, 148, 149, 150, 151, 152, 153, 154, 145, 155, 156, 157, 158, 159, 160, 161, 162, 60, 61, 25, 62, 35, 63, 64, 65, 66, 28, 41, 43, 30, 32, 67, 68, 69, 70, 71, 72, 73, 163, 164, 165, 166, 167, 168, 7, 169, 193, 194, 195, 196, 197, 198, 199, 200, 201, 202, 203, 189, 190, 191, 192, 204, 205, 206, 207, 208, 209, 210, 211, 212] (by decide +kernel) (by decide +kernel)
set_option maxRecDepth 20000 in
theorem gX10_climb_X1_run : GoodIn wsX10_climb (wsV RX10 323 RX1 yX1_run wsX1_run) := goodIn_app (goodIn_of _ (by decide +kernel)) ggX10_climb_X1_run
theorem dX10_climb_0 : decode cX10_climb 0 = .ok (.iload_n 1, 1) := by decide +kernel
theorem dX10_climb_1 : decode cX10_climb 1 = .ok (.iload_n 2, 1) := by decide +kernel
theorem dX10_climb_2 : decode cX10_climb 2 = .ok (.invokestatic 228, 3) := by decide +kernel
theorem dX10_climb_5 : decode cX10_climb 5 = .ok (.aload_n 0, 1) := by decide +kernel
theorem dX10_climb_6 : decode cX10_climb 6 = .ok (.invokevirtual 188, 3) := by decide +kernel
theorem dX10_climb_9 : decode cX10_climb 9 = .ok (.aload_n 0, 1) := by decide +kernel
theorem dX10_climb_10 : decode cX10_climb 10 = .ok (.getfield 91, 3) := by decide +kernel
theorem dX10_climb_13 : decode cX10_climb 13 = .ok (.aload_n 0, 1) := by decide +kernel
theorem dX10_climb_14 : decode cX10_climb 14 = .ok (.getfield 56, 3) := by decide +kernel
theorem dX10_climb_17 : decode cX10_climb 17 = .ok (.aload_n 0, 1) := by decide +kernel
theorem dX10_climb_18 : decode cX10_climb 18 = .ok (.getfield 27, 3) := by decide +kernel
theorem dX10_climb_21 : decode cX10_climb 21 = .ok (.iload_n 1, 1) := by decide +kernel
theorem dX10_climb_22 : decode cX10_climb 22 = .ok (.iload_n 2, 1) := by decide +kernel
theorem dX10_climb_23 : decode cX10_climb 23 = .ok (.invokevirtual 323, 3) := by decide +kernel
theorem dX10_climb_26 : decode cX10_climb 26 = .ok (.aload_n 0, 1) := by decide +kernel
theorem dX10_climb_27 : decode cX10_climb 27 = .ok (.getfield 91, 3) := by decide +kernel
theorem dX10_climb_30 : decode cX10_climb 30 = .ok (.getfield 327, 3) := by decide +kernel
theorem dX10_climb_33 : decode cX10_climb 33 = .ok (.ireturn, 1) := by decide +kernel
set_option maxRecDepth 20000 in
theorem ggX10_share_X10_refreshFrontier : GoodIn wsX10_share wsX10_refreshFrontier := goodIn_r _ [8, 9, 10, 11, 12, 13, 1, 14, 15, 16, 17, 18, 19, 20, 21, 22, 23, 24, 25, 26, 27, 28, 29, 30, 31, 32, 33, 34, 35, 36, 37, 38, 39, 40, 41, 42, 43, 44, 45, 46, 47, 48, 49, 50, 51, 52, 53, 54, 55, 56, 57, 58, 59, 60, 61, 62, 63, 64, 65, 66, 67, 68, 69, 70, 71, 72, 73, 74, 75, 76, 77, 78, 79, 80, 81, 82, 83, 84, 85, 86, 87, 88, 89, 90, 91, 92, 93, 94, 95, 96, 97, 98, 99, 100, 101, 102, 103, 104, 105, 106, 107, 108, 109, 110, 111, 112, 113, 114, 115, 116, 117, 118, 119, 120, 121, 122, 123, 124, 125, 126, 127, 128, 129, 130, 131, 132, 133, 134, 135, 136, 137, 138, 139, 140, 141, 142, 143, 144, 145, 146, 147, 148, 149, 150, 151, 152, 166, 167, 168, 169, 170, 171, 172, 173, 174, 175, 176, 177, 178, 179, 180, 181, 182, 183, 184, 185, 186, 187, 153, 154, 155, 156, 157, 158, 159, 160, 161, 162, 163, 164, 165] (by decide +kernel) (by decide +kernel)
set_option maxRecDepth 20000 in
theorem gX10_share_X10_refreshFrontier : GoodIn wsX10_share (wsV RX10 188 RX10 yX10_refreshFrontier wsX10_refreshFrontier) := goodIn_app (goodIn_of _ (by decide +kernel)) ggX10_share_X10_refreshFrontier
theorem dX10_share_0 : decode cX10_share 0 = .ok (.aload_n 0, 1) := by decide +kernel
theorem dX10_share_1 : decode cX10_share 1 = .ok (.invokevirtual 188, 3) := by decide +kernel
theorem dX10_share_4 : decode cX10_share 4 = .ok (.aload_n 0, 1) := by decide +kernel
theorem dX10_share_5 : decode cX10_share 5 = .ok (.getfield 70, 3) := by decide +kernel
theorem dX10_share_8 : decode cX10_share 8 = .ok (.getfield 198, 3) := by decide +kernel
theorem dX10_share_11 : decode cX10_share 11 = .ok (.ifCond .ne 5, 3) := by decide +kernel
theorem dX10_share_14 : decode cX10_share 14 = .ok (.dconst 0, 1) := by decide +kernel
theorem dX10_share_15 : decode cX10_share 15 = .ok (.dreturn, 1) := by decide +kernel
theorem dX10_share_16 : decode cX10_share 16 = .ok (.aload_n 0, 1) := by decide +kernel
theorem dX10_share_17 : decode cX10_share 17 = .ok (.getfield 70, 3) := by decide +kernel
theorem dX10_share_20 : decode cX10_share 20 = .ok (.getfield 201, 3) := by decide +kernel
theorem dX10_share_23 : decode cX10_share 23 = .ok (.i2d, 1) := by decide +kernel
theorem dX10_share_24 : decode cX10_share 24 = .ok (.aload_n 0, 1) := by decide +kernel
theorem dX10_share_25 : decode cX10_share 25 = .ok (.getfield 70, 3) := by decide +kernel
theorem dX10_share_28 : decode cX10_share 28 = .ok (.getfield 198, 3) := by decide +kernel
theorem dX10_share_31 : decode cX10_share 31 = .ok (.i2d, 1) := by decide +kernel
theorem dX10_share_32 : decode cX10_share 32 = .ok (.ddiv, 1) := by decide +kernel
theorem dX10_share_33 : decode cX10_share 33 = .ok (.dreturn, 1) := by decide +kernel
set_option maxRecDepth 20000 in
theorem ggX10_addItem_X10_requireValue : GoodIn wsX10_addItem wsX10_requireValue := goodIn_ca (goodIn_r _ [9, 10, 11] (by decide +kernel) (by decide +kernel)) (goodIn_sub (fun _ h => List.mem_cons_of_mem _ (List.mem_append_right _ h)) (by decide +kernel))
set_option maxRecDepth 20000 in
theorem gX10_addItem_X10_requireValue : GoodIn wsX10_addItem (va_wsS RX10 330 yX10_requireValue wsX10_requireValue) := goodIn_app (goodIn_of _ (by decide +kernel)) ggX10_addItem_X10_requireValue
set_option maxRecDepth 20000 in
theorem ggX10_addItem_X6_push : GoodIn wsX10_addItem wsX6_push := goodIn_r _ [16, 17, 18, 19, 20, 21, 15, 22, 23, 24, 25, 26, 27, 28, 29, 30, 31, 32, 33, 34, 35, 36, 37, 38, 39, 40, 41, 42, 84, 85, 73, 74, 75, 76, 77, 78, 79, 80, 81, 82, 83] (by decide +kernel) (by decide +kernel)
set_option maxRecDepth 20000 in
theorem gX10_addItem_X6_push : GoodIn wsX10_addItem (wsV RX10 127 RX6 yX6_push wsX6_push) := goodIn_app (goodIn_of _ (by decide +kernel)) ggX10_addItem_X6_push
set_option maxRecDepth 20000 in
theorem ggX10_addItem_X8_addLast : GoodIn wsX10_addItem wsX8_addLast := goodIn_r _ [46, 28, 34, 39, 40, 41, 42, 73, 74, 75, 76, 77, 78, 79, 80, 81, 82, 83] (by decide +kernel) (by decide +kernel)
set_option maxRecDepth 20000 in
theorem gX10_addItem_X8_addLast : GoodIn wsX10_addItem (wsV RX10 335 RX8 yX8_addLast wsX8_addLast) := goodIn_app (goodIn_of _ (by decide +kernel)) ggX10_addItem_X8_addLast
set_option maxRecDepth 20000 in
theorem ggX10_addItem_X10_markChanged : GoodIn wsX10_addItem wsX10_markChanged := goodIn_r _ [50, 51, 52, 53, 54, 55, 56, 57, 58, 59, 60, 61, 62, 63, 64, 65, 66, 67, 68, 69, 70, 71, 72] (by decide +kernel) (by decide +kernel)
set_option maxRecDepth 20000 in
theorem gX10_addItem_X10_markChanged : GoodIn wsX10_addItem (wsV RX10 137 RX10 yX10_markChanged wsX10_markChanged) := goodIn_app (goodIn_of _ (by decide +kernel)) ggX10_addItem_X10_markChanged
theorem dX10_addItem_0 : decode cX10_addItem 0 = .ok (.iload_n 1, 1) := by decide +kernel
theorem dX10_addItem_1 : decode cX10_addItem 1 = .ok (.invokestatic 330, 3) := by decide +kernel
theorem dX10_addItem_4 : decode cX10_addItem 4 = .ok (.iload_n 2, 1) := by decide +kernel
theorem dX10_addItem_5 : decode cX10_addItem 5 = .ok (.invokestatic 330, 3) := by decide +kernel
theorem dX10_addItem_8 : decode cX10_addItem 8 = .ok (.iload_n 3, 1) := by decide +kernel
theorem dX10_addItem_9 : decode cX10_addItem 9 = .ok (.invokestatic 330, 3) := by decide +kernel
theorem dX10_addItem_12 : decode cX10_addItem 12 = .ok (.aload_n 0, 1) := by decide +kernel
theorem dX10_addItem_13 : decode cX10_addItem 13 = .ok (.getfield 27, 3) := by decide +kernel
theorem dX10_addItem_16 : decode cX10_addItem 16 = .ok (.getfield 140, 3) := by decide +kernel
theorem dX10_addItem_19 : decode cX10_addItem 19 = .ok (.bipush 12, 2) := by decide +kernel
theorem dX10_addItem_21 : decode cX10_addItem 21 = .ok (.if_icmp .lt 14, 3) := by decide +kernel
theorem dX10_addItem_24 : decode cX10_addItem 24 = .ok (.new 98, 3) := by decide +kernel
theorem dX10_addItem_27 : decode cX10_addItem 27 = .ok (.dup, 1) := by decide +kernel
theorem dX10_addItem_28 : decode cX10_addItem 28 = .ok (.ldc_w 333, 3) := by decide +kernel
theorem dX10_addItem_31 : decode cX10_addItem 31 = .ok (.invokespecial 102, 3) := by decide +kernel
theorem dX10_addItem_34 : decode cX10_addItem 34 = .ok (.athrow, 1) := by decide +kernel
theorem dX10_addItem_35 : decode cX10_addItem 35 = .ok (.aload_n 0, 1) := by decide +kernel
theorem dX10_addItem_36 : decode cX10_addItem 36 = .ok (.getfield 34, 3) := by decide +kernel
theorem dX10_addItem_39 : decode cX10_addItem 39 = .ok (.aload_n 0, 1) := by decide +kernel
theorem dX10_addItem_40 : decode cX10_addItem 40 = .ok (.getfield 27, 3) := by decide +kernel
theorem dX10_addItem_43 : decode cX10_addItem 43 = .ok (.invokevirtual 127, 3) := by decide +kernel
theorem dX10_addItem_46 : decode cX10_addItem 46 = .ok (.aload_n 0, 1) := by decide +kernel
theorem dX10_addItem_47 : decode cX10_addItem 47 = .ok (.getfield 27, 3) := by decide +kernel
theorem dX10_addItem_50 : decode cX10_addItem 50 = .ok (.iload_n 1, 1) := by decide +kernel
theorem dX10_addItem_51 : decode cX10_addItem 51 = .ok (.iload_n 2, 1) := by decide +kernel
theorem dX10_addItem_52 : decode cX10_addItem 52 = .ok (.iload_n 3, 1) := by decide +kernel
theorem dX10_addItem_53 : decode cX10_addItem 53 = .ok (.invokevirtual 335, 3) := by decide +kernel
theorem dX10_addItem_56 : decode cX10_addItem 56 = .ok (.aload_n 0, 1) := by decide +kernel
theorem dX10_addItem_57 : decode cX10_addItem 57 = .ok (.invokevirtual 137, 3) := by decide +kernel
theorem dX10_addItem_60 : decode cX10_addItem 60 = .ok (.aload_n 0, 1) := by decide +kernel
theorem dX10_addItem_61 : decode cX10_addItem 61 = .ok (.getfield 27, 3) := by decide +kernel
theorem dX10_addItem_64 : decode cX10_addItem 64 = .ok (.getfield 140, 3) := by decide +kernel
theorem dX10_addItem_67 : decode cX10_addItem 67 = .ok (.iconst 1, 1) := by decide +kernel
theorem dX10_addItem_68 : decode cX10_addItem 68 = .ok (.isub, 1) := by decide +kernel
theorem dX10_addItem_69 : decode cX10_addItem 69 = .ok (.ireturn, 1) := by decide +kernel
set_option maxRecDepth 20000 in
theorem ggX10_dropItem_X10_requireItem : GoodIn wsX10_dropItem wsX10_requireItem := goodIn_ca (goodIn_r _ [8, 9, 10, 2, 11, 12, 13, 14, 15, 16, 60, 61, 62, 63, 64, 65, 66, 67, 68, 69, 70, 71, 72, 73, 74, 75, 76, 77, 78, 79, 80, 81, 82, 83, 84, 85, 86, 87, 88, 89] (by decide +kernel) (by decide +kernel)) (goodIn_sub (fun _ h => List.mem_cons_of_mem _ (List.mem_append_right _ h)) (by decide +kernel))
set_option maxRecDepth 20000 in
theorem gX10_dropItem_X10_requireItem : GoodIn wsX10_dropItem (wsV RX10 173 RX10 yX10_requireItem wsX10_requireItem) := goodIn_app (goodIn_of _ (by decide +kernel)) ggX10_dropItem_X10_requireItem
set_option maxRecDepth 20000 in
theorem ggX10_dropItem_X6_push : GoodIn wsX10_dropItem wsX6_push := goodIn_r _ [21, 22, 23, 24, 25, 26, 20, 27, 28, 29, 30, 14, 31, 16, 32, 33, 34, 35, 36, 37, 38, 39, 40, 41, 42, 43, 44, 45, 90, 91, 79, 80, 81, 82, 83, 84, 85, 86, 87, 88, 89] (by decide +kernel) (by decide +kernel)
set_option maxRecDepth 20000 in
theorem gX10_dropItem_X6_push : GoodIn wsX10_dropItem (wsV RX10 127 RX6 yX6_push wsX6_push) := goodIn_app (goodIn_of _ (by decide +kernel)) ggX10_dropItem_X6_push
set_option maxRecDepth 20000 in
theorem ggX10_dropItem_X8_drop : GoodIn wsX10_dropItem wsX8_drop := goodIn_r _ [49, 16, 37, 42, 43, 44, 45, 34, 35, 36, 50, 51, 14, 52, 79, 80, 81, 82, 83, 84, 85, 86, 87, 88, 89] (by decide +kernel) (by decide +kernel)
set_option maxRecDepth 20000 in
theorem gX10_dropItem_X8_drop : GoodIn wsX10_dropItem (wsV RX10 339 RX8 yX8_drop wsX8_drop) := goodIn_app (goodIn_of _ (by decide +kernel)) ggX10_dropItem_X8_drop
set_option maxRecDepth 20000 in
theorem ggX10_dropItem_X10_markChanged : GoodIn wsX10_dropItem wsX10_markChanged := goodIn_r _ [56, 57, 58, 59, 60, 61, 62, 63, 64, 65, 66, 67, 68, 69, 70, 71, 72, 73, 74, 75, 76, 77, 78] (by decide +kernel) (by decide +kernel)
set_option maxRecDepth 20000 in
theorem gX10_dropItem_X10_markChanged : GoodIn wsX10_dropItem (wsV RX10 137 RX10 yX10_markChanged wsX10_markChanged) := goodIn_app (goodIn_of _ (by decide +kernel)) ggX10_dropItem_X10_markChanged
theorem dX10_dropItem_0 : decode cX10_dropItem 0 = .ok (.aload_n 0, 1) := by decide +kernel
theorem dX10_dropItem_1 : decode cX10_dropItem 1 = .ok (.iload_n 1, 1) := by decide +kernel
theorem dX10_dropItem_2 : decode cX10_dropItem 2 = .ok (.invokevirtual 173, 3) := by decide +kernel
theorem dX10_dropItem_5 : decode cX10_dropItem 5 = .ok (.aload_n 0, 1) := by decide +kernel
theorem dX10_dropItem_6 : decode cX10_dropItem 6 = .ok (.getfield 34, 3) := by decide +kernel
theorem dX10_dropItem_9 : decode cX10_dropItem 9 = .ok (.aload_n 0, 1) := by decide +kernel
theorem dX10_dropItem_10 : decode cX10_dropItem 10 = .ok (.getfield 27, 3) := by decide +kernel
theorem dX10_dropItem_13 : decode cX10_dropItem 13 = .ok (.invokevirtual 127, 3) := by decide +kernel
theorem dX10_dropItem_16 : decode cX10_dropItem 16 = .ok (.aload_n 0, 1) := by decide +kernel
theorem dX10_dropItem_17 : decode cX10_dropItem 17 = .ok (.getfield 27, 3) := by decide +kernel
theorem dX10_dropItem_20 : decode cX10_dropItem 20 = .ok (.iload_n 1, 1) := by decide +kernel
theorem dX10_dropItem_21 : decode cX10_dropItem 21 = .ok (.invokevirtual 339, 3) := by decide +kernel
theorem dX10_dropItem_24 : decode cX10_dropItem 24 = .ok (.aload_n 0, 1) := by decide +kernel
theorem dX10_dropItem_25 : decode cX10_dropItem 25 = .ok (.invokevirtual 137, 3) := by decide +kernel
theorem dX10_dropItem_28 : decode cX10_dropItem 28 = .ok (.aload_n 0, 1) := by decide +kernel
theorem dX10_dropItem_29 : decode cX10_dropItem 29 = .ok (.getfield 27, 3) := by decide +kernel
theorem dX10_dropItem_32 : decode cX10_dropItem 32 = .ok (.getfield 140, 3) := by decide +kernel
theorem dX10_dropItem_35 : decode cX10_dropItem 35 = .ok (.ireturn, 1) := by decide +kernel
set_option maxRecDepth 20000 in
theorem ggX10_setItem_X10_requireItem : GoodIn wsX10_setItem wsX10_requireItem := goodIn_ca (goodIn_r _ [10, 11, 12, 2, 13, 14, 15, 16, 17, 18, 63, 64, 65, 66, 67, 68, 69, 70, 71, 72, 73, 74, 75, 76, 77, 78, 79, 80, 81, 82, 83, 84, 85, 86, 87, 88, 89, 90, 91, 92] (by decide +kernel) (by decide +kernel)) (goodIn_sub (fun _ h => List.mem_cons_of_mem _ (List.mem_append_left _ (List.mem_append_right _ h))) (by decide +kernel))
set_option maxRecDepth 20000 in
theorem gX10_setItem_X10_requireItem : GoodIn wsX10_setItem (wsV RX10 173 RX10 yX10_requireItem wsX10_requireItem) := goodIn_app (goodIn_of _ (by decide +kernel)) ggX10_setItem_X10_requireItem
set_option maxRecDepth 20000 in
theorem ggX10_setItem_X10_requireWhat : GoodIn wsX10_setItem wsX10_requireWhat := goodIn_ca (goodIn_r _ [21, 22, 23] (by decide +kernel) (by decide +kernel)) (goodIn_sub (fun _ h => List.mem_cons_of_mem _ (List.mem_append_right _ h)) (by decide +kernel))
set_option maxRecDepth 20000 in
theorem gX10_setItem_X10_requireWhat : GoodIn wsX10_setItem (va_wsS RX10 143 yX10_requireWhat wsX10_requireWhat) := goodIn_app (goodIn_of _ (by decide +kernel)) ggX10_setItem_X10_requireWhat
set_option maxRecDepth 20000 in
theorem ggX10_setItem_X10_requireValue : GoodIn wsX10_setItem wsX10_requireValue := goodIn_ca (goodIn_r _ [26, 22, 23] (by decide +kernel) (by decide +kernel)) (goodIn_sub (fun _ h => List.mem_cons_of_mem _ (List.mem_append_right _ h)) (by decide +kernel))
set_option maxRecDepth 20000 in
theorem gX10_setItem_X10_requireValue : GoodIn wsX10_setItem (va_wsS RX10 330 yX10_requireValue wsX10_requireValue) := goodIn_app (goodIn_of _ (by decide +kernel)) ggX10_setItem_X10_requireValue
set_option maxRecDepth 20000 in
theorem ggX10_setItem_X6_push : GoodIn wsX10_setItem wsX6_push := goodIn_r _ [31, 32, 33, 34, 35, 36, 30, 37, 38, 39, 40, 16, 41, 18, 42, 43, 44, 45, 46, 47, 48, 49, 50, 51, 52, 53, 54, 55, 93, 94, 82, 83, 84, 85, 86, 87, 88, 89, 90, 91, 92] (by decide +kernel) (by decide +kernel)
set_option maxRecDepth 20000 in
theorem gX10_setItem_X6_push : GoodIn wsX10_setItem (wsV RX10 127 RX6 yX6_push wsX6_push) := goodIn_app (goodIn_of _ (by decide +kernel)) ggX10_setItem_X6_push
set_option maxRecDepth 20000 in
theorem ggX10_setItem_X10_markChanged : GoodIn wsX10_setItem wsX10_markChanged := goodIn_r _ [59, 60, 61, 62, 63, 64, 65, 66, 67, 68, 69, 70, 71, 72, 73, 74, 75, 76, 77, 78, 79, 80, 81] (by decide +kernel) (by decide +kernel)
set_option maxRecDepth 20000 in
theorem gX10_setItem_X10_markChanged : GoodIn wsX10_setItem (wsV RX10 137 RX10 yX10_markChanged wsX10_markChanged) := goodIn_app (goodIn_of _ (by decide +kernel)) ggX10_setItem_X10_markChanged
theorem dX10_setItem_0 : decode cX10_setItem 0 = .ok (.aload_n 0, 1) := by decide +kernel
theorem dX10_setItem_1 : decode cX10_setItem 1 = .ok (.iload_n 1, 1) := by decide +kernel
theorem dX10_setItem_2 : decode cX10_setItem 2 = .ok (.invokevirtual 173, 3) := by decide +kernel
theorem dX10_setItem_5 : decode cX10_setItem 5 = .ok (.iload_n 2, 1) := by decide +kernel
theorem dX10_setItem_6 : decode cX10_setItem 6 = .ok (.iconst 2, 1) := by decide +kernel
theorem dX10_setItem_7 : decode cX10_setItem 7 = .ok (.invokestatic 143, 3) := by decide +kernel
theorem dX10_setItem_10 : decode cX10_setItem 10 = .ok (.iload_n 3, 1) := by decide +kernel
theorem dX10_setItem_11 : decode cX10_setItem 11 = .ok (.invokestatic 330, 3) := by decide +kernel
theorem dX10_setItem_14 : decode cX10_setItem 14 = .ok (.aload_n 0, 1) := by decide +kernel
theorem dX10_setItem_15 : decode cX10_setItem 15 = .ok (.getfield 34, 3) := by decide +kernel
theorem dX10_setItem_18 : decode cX10_setItem 18 = .ok (.aload_n 0, 1) := by decide +kernel
theorem dX10_setItem_19 : decode cX10_setItem 19 = .ok (.getfield 27, 3) := by decide +kernel
theorem dX10_setItem_22 : decode cX10_setItem 22 = .ok (.invokevirtual 127, 3) := by decide +kernel
theorem dX10_setItem_25 : decode cX10_setItem 25 = .ok (.iload_n 2, 1) := by decide +kernel
theorem dX10_setItem_26 : decode cX10_setItem 26 = .ok (.ifCond .ne 13, 3) := by decide +kernel
theorem dX10_setItem_29 : decode cX10_setItem 29 = .ok (.aload_n 0, 1) := by decide +kernel
theorem dX10_setItem_30 : decode cX10_setItem 30 = .ok (.getfield 27, 3) := by decide +kernel
theorem dX10_setItem_33 : decode cX10_setItem 33 = .ok (.getfield 176, 3) := by decide +kernel
theorem dX10_setItem_36 : decode cX10_setItem 36 = .ok (.goto 25, 3) := by decide +kernel
theorem dX10_setItem_39 : decode cX10_setItem 39 = .ok (.iload_n 2, 1) := by decide +kernel
theorem dX10_setItem_40 : decode cX10_setItem 40 = .ok (.iconst 1, 1) := by decide +kernel
theorem dX10_setItem_41 : decode cX10_setItem 41 = .ok (.if_icmp .ne 13, 3) := by decide +kernel
theorem dX10_setItem_44 : decode cX10_setItem 44 = .ok (.aload_n 0, 1) := by decide +kernel
theorem dX10_setItem_45 : decode cX10_setItem 45 = .ok (.getfield 27, 3) := by decide +kernel
theorem dX10_setItem_48 : decode cX10_setItem 48 = .ok (.getfield 179, 3) := by decide +kernel
theorem dX10_setItem_51 : decode cX10_setItem 51 = .ok (.goto 10, 3) := by decide +kernel
theorem dX10_setItem_54 : decode cX10_setItem 54 = .ok (.aload_n 0, 1) := by decide +kernel
theorem dX10_setItem_55 : decode cX10_setItem 55 = .ok (.getfield 27, 3) := by decide +kernel
theorem dX10_setItem_58 : decode cX10_setItem 58 = .ok (.getfield 182, 3) := by decide +kernel
theorem dX10_setItem_61 : decode cX10_setItem 61 = .ok (.astore 4, 2) := by decide +kernel
theorem dX10_setItem_63 : decode cX10_setItem 63 = .ok (.aload 4, 2) := by decide +kernel
theorem dX10_setItem_65 : decode cX10_setItem 65 = .ok (.iload_n 1, 1) := by decide +kernel
theorem dX10_setItem_66 : decode cX10_setItem 66 = .ok (.iaload, 1) := by decide +kernel
theorem dX10_setItem_67 : decode cX10_setItem 67 = .ok (.istore 5, 2) := by decide +kernel
theorem dX10_setItem_69 : decode cX10_setItem 69 = .ok (.aload 4, 2) := by decide +kernel
theorem dX10_setItem_71 : decode cX10_setItem 71 = .ok (.iload_n 1, 1) := by decide +kernel
theorem dX10_setItem_72 : decode cX10_setItem 72 = .ok (.iload_n 3, 1) := by decide +kernel
theorem dX10_setItem_73 : decode cX10_setItem 73 = .ok (.iastore, 1) := by decide +kernel
theorem dX10_setItem_74 : decode cX10_setItem 74 = .ok (.aload_n 0, 1) := by decide +kernel
theorem dX10_setItem_75 : decode cX10_setItem 75 = .ok (.invokevirtual 137, 3) := by decide +kernel
theorem dX10_setItem_78 : decode cX10_setItem 78 = .ok (.iload 5, 2) := by decide +kernel
theorem dX10_setItem_80 : decode cX10_setItem 80 = .ok (.ireturn, 1) := by decide +kernel
set_option maxRecDepth 20000 in
theorem ggX10_setCapacity_X10_requireCapacity : GoodIn wsX10_setCapacity wsX10_requireCapacity := goodIn_ca (goodIn_r _ [7, 8, 9] (by decide +kernel) (by decide +kernel)) (goodIn_sub (fun _ h => List.mem_cons_of_mem _ (List.mem_append_right _ h)) (by decide +kernel))
set_option maxRecDepth 20000 in
theorem gX10_setCapacity_X10_requireCapacity : GoodIn wsX10_setCapacity (va_wsS RX10 297 yX10_requireCapacity wsX10_requireCapacity) := goodIn_app (goodIn_of _ (by decide +kernel)) ggX10_setCapacity_X10_requireCapacity
set_option maxRecDepth 20000 in
theorem ggX10_setCapacity_X6_push : GoodIn wsX10_setCapacity wsX6_push := goodIn_r _ [14, 15, 16, 17, 18, 19, 13, 20, 21, 22, 23, 24, 25, 26, 27, 28, 29, 30, 31, 32, 33, 34, 35, 36, 37, 38, 39, 40, 78, 79, 67, 68, 69, 70, 71, 72, 73, 74, 75, 76, 77] (by decide +kernel) (by decide +kernel)
set_option maxRecDepth 20000 in
theorem gX10_setCapacity_X6_push : GoodIn wsX10_setCapacity (wsV RX10 127 RX6 yX6_push wsX6_push) := goodIn_app (goodIn_of _ (by decide +kernel)) ggX10_setCapacity_X6_push
set_option maxRecDepth 20000 in
theorem ggX10_setCapacity_X10_markChanged : GoodIn wsX10_setCapacity wsX10_markChanged := goodIn_r _ [44, 45, 46, 47, 48, 49, 50, 51, 52, 53, 54, 55, 56, 57, 58, 59, 60, 61, 62, 63, 64, 65, 66] (by decide +kernel) (by decide +kernel)
set_option maxRecDepth 20000 in
theorem gX10_setCapacity_X10_markChanged : GoodIn wsX10_setCapacity (wsV RX10 137 RX10 yX10_markChanged wsX10_markChanged) := goodIn_app (goodIn_of _ (by decide +kernel)) ggX10_setCapacity_X10_markChanged
theorem dX10_setCapacity_0 : decode cX10_setCapacity 0 = .ok (.iload_n 1, 1) := by decide +kernel
theorem dX10_setCapacity_1 : decode cX10_setCapacity 1 = .ok (.invokestatic 297, 3) := by decide +kernel
theorem dX10_setCapacity_4 : decode cX10_setCapacity 4 = .ok (.aload_n 0, 1) := by decide +kernel
theorem dX10_setCapacity_5 : decode cX10_setCapacity 5 = .ok (.getfield 34, 3) := by decide +kernel
theorem dX10_setCapacity_8 : decode cX10_setCapacity 8 = .ok (.aload_n 0, 1) := by decide +kernel
theorem dX10_setCapacity_9 : decode cX10_setCapacity 9 = .ok (.getfield 27, 3) := by decide +kernel
theorem dX10_setCapacity_12 : decode cX10_setCapacity 12 = .ok (.invokevirtual 127, 3) := by decide +kernel
theorem dX10_setCapacity_15 : decode cX10_setCapacity 15 = .ok (.aload_n 0, 1) := by decide +kernel
theorem dX10_setCapacity_16 : decode cX10_setCapacity 16 = .ok (.getfield 27, 3) := by decide +kernel
theorem dX10_setCapacity_19 : decode cX10_setCapacity 19 = .ok (.getfield 147, 3) := by decide +kernel
theorem dX10_setCapacity_22 : decode cX10_setCapacity 22 = .ok (.istore_n 2, 1) := by decide +kernel
theorem dX10_setCapacity_23 : decode cX10_setCapacity 23 = .ok (.aload_n 0, 1) := by decide +kernel
theorem dX10_setCapacity_24 : decode cX10_setCapacity 24 = .ok (.getfield 27, 3) := by decide +kernel
theorem dX10_setCapacity_27 : decode cX10_setCapacity 27 = .ok (.iload_n 1, 1) := by decide +kernel
theorem dX10_setCapacity_28 : decode cX10_setCapacity 28 = .ok (.putfield 147, 3) := by decide +kernel
theorem dX10_setCapacity_31 : decode cX10_setCapacity 31 = .ok (.aload_n 0, 1) := by decide +kernel
theorem dX10_setCapacity_32 : decode cX10_setCapacity 32 = .ok (.invokevirtual 137, 3) := by decide +kernel
theorem dX10_setCapacity_35 : decode cX10_setCapacity 35 = .ok (.iload_n 2, 1) := by decide +kernel
theorem dX10_setCapacity_36 : decode cX10_setCapacity 36 = .ok (.ireturn, 1) := by decide +kernel
set_option maxRecDepth 20000 in
theorem ggX10_setLimit_X6_push : GoodIn wsX10_setLimit wsX6_push := goodIn_r _ [10, 11, 12, 13, 14, 15, 9, 16, 17, 18, 19, 20, 21, 22, 23, 24, 25, 26, 27, 28, 29, 30, 31, 32, 33, 34, 35, 36, 75, 76, 64, 65, 66, 67, 68, 69, 70, 71, 72, 73, 74] (by decide +kernel) (by decide +kernel)
set_option maxRecDepth 20000 in
theorem gX10_setLimit_X6_push : GoodIn wsX10_setLimit (wsV RX10 127 RX6 yX6_push wsX6_push) := goodIn_app (goodIn_of _ (by decide +kernel)) ggX10_setLimit_X6_push
set_option maxRecDepth 20000 in
theorem ggX10_setLimit_X10_markChanged : GoodIn wsX10_setLimit wsX10_markChanged := goodIn_r _ [41, 42, 43, 44, 45, 46, 47, 48, 49, 50, 51, 52, 53, 54, 55, 56, 57, 58, 59, 60, 61, 62, 63] (by decide +kernel) (by decide +kernel)
set_option maxRecDepth 20000 in
theorem gX10_setLimit_X10_markChanged : GoodIn wsX10_setLimit (wsV RX10 137 RX10 yX10_markChanged wsX10_markChanged) := goodIn_app (goodIn_of _ (by decide +kernel)) ggX10_setLimit_X10_markChanged
theorem dX10_setLimit_0 : decode cX10_setLimit 0 = .ok (.iload_n 1, 1) := by decide +kernel
theorem dX10_setLimit_1 : decode cX10_setLimit 1 = .ok (.ifCond .lt 9, 3) := by decide +kernel
theorem dX10_setLimit_4 : decode cX10_setLimit 4 = .ok (.iload_n 1, 1) := by decide +kernel
theorem dX10_setLimit_5 : decode cX10_setLimit 5 = .ok (.bipush 12, 2) := by decide +kernel
theorem dX10_setLimit_7 : decode cX10_setLimit 7 = .ok (.if_icmp .le 14, 3) := by decide +kernel
theorem dX10_setLimit_10 : decode cX10_setLimit 10 = .ok (.new 109, 3) := by decide +kernel
theorem dX10_setLimit_13 : decode cX10_setLimit 13 = .ok (.dup, 1) := by decide +kernel
theorem dX10_setLimit_14 : decode cX10_setLimit 14 = .ok (.ldc_w 342, 3) := by decide +kernel
theorem dX10_setLimit_17 : decode cX10_setLimit 17 = .ok (.invokespecial 113, 3) := by decide +kernel
theorem dX10_setLimit_20 : decode cX10_setLimit 20 = .ok (.athrow, 1) := by decide +kernel
theorem dX10_setLimit_21 : decode cX10_setLimit 21 = .ok (.aload_n 0, 1) := by decide +kernel
theorem dX10_setLimit_22 : decode cX10_setLimit 22 = .ok (.getfield 34, 3) := by decide +kernel
theorem dX10_setLimit_25 : decode cX10_setLimit 25 = .ok (.aload_n 0, 1) := by decide +kernel
theorem dX10_setLimit_26 : decode cX10_setLimit 26 = .ok (.getfield 27, 3) := by decide +kernel
theorem dX10_setLimit_29 : decode cX10_setLimit 29 = .ok (.invokevirtual 127, 3) := by decide +kernel
theorem dX10_setLimit_32 : decode cX10_setLimit 32 = .ok (.aload_n 0, 1) := by decide +kernel
theorem dX10_setLimit_33 : decode cX10_setLimit 33 = .ok (.getfield 27, 3) := by decide +kernel
theorem dX10_setLimit_36 : decode cX10_setLimit 36 = .ok (.getfield 150, 3) := by decide +kernel
theorem dX10_setLimit_39 : decode cX10_setLimit 39 = .ok (.istore_n 2, 1) := by decide +kernel
theorem dX10_setLimit_40 : decode cX10_setLimit 40 = .ok (.aload_n 0, 1) := by decide +kernel
theorem dX10_setLimit_41 : decode cX10_setLimit 41 = .ok (.getfield 27, 3) := by decide +kernel
theorem dX10_setLimit_44 : decode cX10_setLimit 44 = .ok (.iload_n 1, 1) := by decide +kernel
theorem dX10_setLimit_45 : decode cX10_setLimit 45 = .ok (.putfield 150, 3) := by decide +kernel
theorem dX10_setLimit_48 : decode cX10_setLimit 48 = .ok (.aload_n 0, 1) := by decide +kernel
theorem dX10_setLimit_49 : decode cX10_setLimit 49 = .ok (.invokevirtual 137, 3) := by decide +kernel
theorem dX10_setLimit_52 : decode cX10_setLimit 52 = .ok (.iload_n 2, 1) := by decide +kernel
theorem dX10_setLimit_53 : decode cX10_setLimit 53 = .ok (.ireturn, 1) := by decide +kernel
set_option maxRecDepth 20000 in
theorem ggX10_bar_X10_requireTwoItems : GoodIn wsX10_bar wsX10_requireTwoItems := goodIn_ca (goodIn_ca (goodIn_r _ [8, 9, 10, 11, 12, 13, 7, 14, 15, 16, 2, 17, 18, 19, 20, 21, 22, 65, 66, 67, 68, 69, 70, 71, 72, 73, 74, 75, 76, 77, 78, 79, 80, 81, 82, 83, 84, 85, 86, 87, 88, 89, 90, 91, 92, 93, 94] (by decide +kernel) (by decide +kernel)) (goodIn_sub (fun _ h => List.mem_cons_of_mem _ (List.mem_append_left _ (List.mem_append_right _ h))) (by decide +kernel))) (goodIn_sub (fun _ h => List.mem_cons_of_mem _ (List.mem_append_right _ h)) (by decide +kernel))
set_option maxRecDepth 20000 in
theorem gX10_bar_X10_requireTwoItems : GoodIn wsX10_bar (wsV RX10 344 RX10 yX10_requireTwoItems wsX10_requireTwoItems) := goodIn_app (goodIn_of _ (by decide +kernel)) ggX10_bar_X10_requireTwoItems
set_option maxRecDepth 20000 in
theorem ggX10_bar_X6_push : GoodIn wsX10_bar wsX6_push := goodIn_r _ [27, 28, 29, 30, 31, 32, 26, 33, 34, 35, 36, 20, 37, 22, 38, 39, 40, 41, 42, 43, 44, 45, 46, 47, 48, 49, 50, 51, 95, 96, 84, 85, 86, 87, 88, 89, 90, 91, 92, 93, 94] (by decide +kernel) (by decide +kernel)
set_option maxRecDepth 20000 in
theorem gX10_bar_X6_push : GoodIn wsX10_bar (wsV RX10 127 RX6 yX6_push wsX6_push) := goodIn_app (goodIn_of _ (by decide +kernel)) ggX10_bar_X6_push
set_option maxRecDepth 20000 in
theorem ggX10_bar_X10_hasBit : GoodIn wsX10_bar wsX10_hasBit := goodIn_r _ [54] (by decide +kernel) (by decide +kernel)
set_option maxRecDepth 20000 in
theorem gX10_bar_X10_hasBit : GoodIn wsX10_bar (va_wsS RX10 347 yX10_hasBit wsX10_hasBit) := goodIn_app (goodIn_of _ (by decide +kernel)) ggX10_bar_X10_hasBit
set_option maxRecDepth 20000 in
theorem ggX10_bar_X10_withBit : GoodIn wsX10_bar wsX10_withBit := goodIn_r _ [57] (by decide +kernel) (by decide +kernel)
set_option maxRecDepth 20000 in
theorem gX10_bar_X10_withBit : GoodIn wsX10_bar (va_wsS RX10 351 yX10_withBit wsX10_withBit) := goodIn_app (goodIn_of _ (by decide +kernel)) ggX10_bar_X10_withBit
set_option maxRecDepth 20000 in
theorem ggX10_bar_X10_markChanged : GoodIn wsX10_bar wsX10_markChanged := goodIn_r _ [61, 62, 63, 64, 65, 66, 67, 68, 69, 70, 71, 72, 73, 74, 75, 76, 77, 78, 79, 80, 81, 82, 83] (by decide +kernel) (by decide +kernel)
set_option maxRecDepth 20000 in
theorem gX10_bar_X10_markChanged : GoodIn wsX10_bar (wsV RX10 137 RX10 yX10_markChanged wsX10_markChanged) := goodIn_app (goodIn_of _ (by decide +kernel)) ggX10_bar_X10_markChanged
theorem dX10_bar_0 : decode cX10_bar 0 = .ok (.aload_n 0, 1) := by decide +kernel
theorem dX10_bar_1 : decode cX10_bar 1 = .ok (.iload_n 1, 1) := by decide +kernel
theorem dX10_bar_2 : decode cX10_bar 2 = .ok (.iload_n 2, 1) := by decide +kernel
theorem dX10_bar_3 : decode cX10_bar 3 = .ok (.invokevirtual 344, 3) := by decide +kernel
theorem dX10_bar_6 : decode cX10_bar 6 = .ok (.aload_n 0, 1) := by decide +kernel
theorem dX10_bar_7 : decode cX10_bar 7 = .ok (.getfield 34, 3) := by decide +kernel
theorem dX10_bar_10 : decode cX10_bar 10 = .ok (.aload_n 0, 1) := by decide +kernel
theorem dX10_bar_11 : decode cX10_bar 11 = .ok (.getfield 27, 3) := by decide +kernel
theorem dX10_bar_14 : decode cX10_bar 14 = .ok (.invokevirtual 127, 3) := by decide +kernel
theorem dX10_bar_17 : decode cX10_bar 17 = .ok (.aload_n 0, 1) := by decide +kernel
theorem dX10_bar_18 : decode cX10_bar 18 = .ok (.getfield 27, 3) := by decide +kernel
theorem dX10_bar_21 : decode cX10_bar 21 = .ok (.getfield 153, 3) := by decide +kernel
theorem dX10_bar_24 : decode cX10_bar 24 = .ok (.iload_n 1, 1) := by decide +kernel
theorem dX10_bar_25 : decode cX10_bar 25 = .ok (.iaload, 1) := by decide +kernel
theorem dX10_bar_26 : decode cX10_bar 26 = .ok (.iload_n 2, 1) := by decide +kernel
theorem dX10_bar_27 : decode cX10_bar 27 = .ok (.invokestatic 347, 3) := by decide +kernel
theorem dX10_bar_30 : decode cX10_bar 30 = .ok (.istore 4, 2) := by decide +kernel
theorem dX10_bar_32 : decode cX10_bar 32 = .ok (.aload_n 0, 1) := by decide +kernel
theorem dX10_bar_33 : decode cX10_bar 33 = .ok (.getfield 27, 3) := by decide +kernel
theorem dX10_bar_36 : decode cX10_bar 36 = .ok (.getfield 153, 3) := by decide +kernel
theorem dX10_bar_39 : decode cX10_bar 39 = .ok (.iload_n 1, 1) := by decide +kernel
theorem dX10_bar_40 : decode cX10_bar 40 = .ok (.aload_n 0, 1) := by decide +kernel
theorem dX10_bar_41 : decode cX10_bar 41 = .ok (.getfield 27, 3) := by decide +kernel
theorem dX10_bar_44 : decode cX10_bar 44 = .ok (.getfield 153, 3) := by decide +kernel
theorem dX10_bar_47 : decode cX10_bar 47 = .ok (.iload_n 1, 1) := by decide +kernel
theorem dX10_bar_48 : decode cX10_bar 48 = .ok (.iaload, 1) := by decide +kernel
theorem dX10_bar_49 : decode cX10_bar 49 = .ok (.iload_n 2, 1) := by decide +kernel
theorem dX10_bar_50 : decode cX10_bar 50 = .ok (.iload_n 3, 1) := by decide +kernel
theorem dX10_bar_51 : decode cX10_bar 51 = .ok (.invokestatic 351, 3) := by decide +kernel
theorem dX10_bar_54 : decode cX10_bar 54 = .ok (.iastore, 1) := by decide +kernel
theorem dX10_bar_55 : decode cX10_bar 55 = .ok (.aload_n 0, 1) := by decide +kernel
theorem dX10_bar_56 : decode cX10_bar 56 = .ok (.getfield 27, 3) := by decide +kernel
theorem dX10_bar_59 : decode cX10_bar 59 = .ok (.getfield 153, 3) := by decide +kernel
theorem dX10_bar_62 : decode cX10_bar 62 = .ok (.iload_n 2, 1) := by decide +kernel
theorem dX10_bar_63 : decode cX10_bar 63 = .ok (.aload_n 0, 1) := by decide +kernel
theorem dX10_bar_64 : decode cX10_bar 64 = .ok (.getfield 27, 3) := by decide +kernel
theorem dX10_bar_67 : decode cX10_bar 67 = .ok (.getfield 153, 3) := by decide +kernel
theorem dX10_bar_70 : decode cX10_bar 70 = .ok (.iload_n 2, 1) := by decide +kernel
theorem dX10_bar_71 : decode cX10_bar 71 = .ok (.iaload, 1) := by decide +kernel
theorem dX10_bar_72 : decode cX10_bar 72 = .ok (.iload_n 1, 1) := by decide +kernel
theorem dX10_bar_73 : decode cX10_bar 73 = .ok (.iload_n 3, 1) := by decide +kernel
theorem dX10_bar_74 : decode cX10_bar 74 = .ok (.invokestatic 351, 3) := by decide +kernel
theorem dX10_bar_77 : decode cX10_bar 77 = .ok (.iastore, 1) := by decide +kernel
theorem dX10_bar_78 : decode cX10_bar 78 = .ok (.aload_n 0, 1) := by decide +kernel
theorem dX10_bar_79 : decode cX10_bar 79 = .ok (.invokevirtual 137, 3) := by decide +kernel
theorem dX10_bar_82 : decode cX10_bar 82 = .ok (.iload 4, 2) := by decide +kernel
theorem dX10_bar_84 : decode cX10_bar 84 = .ok (.ireturn, 1) := by decide +kernel
set_option maxRecDepth 20000 in
theorem ggX10_need_X10_requireTwoItems : GoodIn wsX10_need wsX10_requireTwoItems := goodIn_ca (goodIn_ca (goodIn_r _ [8, 9, 10, 11, 12, 13, 7, 14, 15, 16, 2, 17, 18, 19, 20, 21, 22, 65, 66, 67, 68, 69, 70, 71, 72, 73, 74, 75, 76, 77, 78, 79, 80, 81, 82, 83, 84, 85, 86, 87, 88, 89, 90, 91, 92, 93, 94] (by decide +kernel) (by decide +kernel)) (goodIn_sub (fun _ h => List.mem_cons_of_mem _ (List.mem_append_left _ (List.mem_append_right _ h))) (by decide +kernel))) (goodIn_sub (fun _ h => List.mem_cons_of_mem _ (List.mem_append_right _ h)) (by decide +kernel))
set_option maxRecDepth 20000 in
theorem gX10_need_X10_requireTwoItems : GoodIn wsX10_need (wsV RX10 344 RX10 yX10_requireTwoItems wsX10_requireTwoItems) := goodIn_app (goodIn_of _ (by decide +kernel)) ggX10_need_X10_requireTwoItems
set_option maxRecDepth 20000 in
theorem ggX10_need_X6_push : GoodIn wsX10_need wsX6_push := goodIn_r _ [27, 28, 29, 30, 31, 32, 26, 33, 34, 35, 36, 20, 37, 22, 38, 39, 40, 41, 42, 43, 44, 45, 46, 47, 48, 49, 50, 51, 95, 96, 84, 85, 86, 87, 88, 89, 90, 91, 92, 93, 94] (by decide +kernel) (by decide +kernel)
set_option maxRecDepth 20000 in
theorem gX10_need_X6_push : GoodIn wsX10_need (wsV RX10 127 RX6 yX6_push wsX6_push) := goodIn_app (goodIn_of _ (by decide +kernel)) ggX10_need_X6_push
set_option maxRecDepth 20000 in
theorem ggX10_need_X10_hasBit : GoodIn wsX10_need wsX10_hasBit := goodIn_r _ [54] (by decide +kernel) (by decide +kernel)
set_option maxRecDepth 20000 in
theorem gX10_need_X10_hasBit : GoodIn wsX10_need (va_wsS RX10 347 yX10_hasBit wsX10_hasBit) := goodIn_app (goodIn_of _ (by decide +kernel)) ggX10_need_X10_hasBit
set_option maxRecDepth 20000 in
theorem ggX10_need_X10_withBit : GoodIn wsX10_need wsX10_withBit := goodIn_r _ [57] (by decide +kernel) (by decide +kernel)
set_option maxRecDepth 20000 in
theorem gX10_need_X10_withBit : GoodIn wsX10_need (va_wsS RX10 351 yX10_withBit wsX10_withBit) := goodIn_app (goodIn_of _ (by decide +kernel)) ggX10_need_X10_withBit
set_option maxRecDepth 20000 in
theorem ggX10_need_X10_markChanged : GoodIn wsX10_need wsX10_markChanged := goodIn_r _ [61, 62, 63, 64, 65, 66, 67, 68, 69, 70, 71, 72, 73, 74, 75, 76, 77, 78, 79, 80, 81, 82, 83] (by decide +kernel) (by decide +kernel)
set_option maxRecDepth 20000 in
theorem gX10_need_X10_markChanged : GoodIn wsX10_need (wsV RX10 137 RX10 yX10_markChanged wsX10_markChanged) := goodIn_app (goodIn_of _ (by decide +kernel)) ggX10_need_X10_markChanged
theorem dX10_need_0 : decode cX10_need 0 = .ok (.aload_n 0, 1) := by decide +kernel
theorem dX10_need_1 : decode cX10_need 1 = .ok (.iload_n 1, 1) := by decide +kernel
theorem dX10_need_2 : decode cX10_need 2 = .ok (.iload_n 2, 1) := by decide +kernel
theorem dX10_need_3 : decode cX10_need 3 = .ok (.invokevirtual 344, 3) := by decide +kernel
theorem dX10_need_6 : decode cX10_need 6 = .ok (.aload_n 0, 1) := by decide +kernel
theorem dX10_need_7 : decode cX10_need 7 = .ok (.getfield 34, 3) := by decide +kernel
theorem dX10_need_10 : decode cX10_need 10 = .ok (.aload_n 0, 1) := by decide +kernel
theorem dX10_need_11 : decode cX10_need 11 = .ok (.getfield 27, 3) := by decide +kernel
theorem dX10_need_14 : decode cX10_need 14 = .ok (.invokevirtual 127, 3) := by decide +kernel
theorem dX10_need_17 : decode cX10_need 17 = .ok (.aload_n 0, 1) := by decide +kernel
theorem dX10_need_18 : decode cX10_need 18 = .ok (.getfield 27, 3) := by decide +kernel
theorem dX10_need_21 : decode cX10_need 21 = .ok (.getfield 161, 3) := by decide +kernel
theorem dX10_need_24 : decode cX10_need 24 = .ok (.iload_n 1, 1) := by decide +kernel
theorem dX10_need_25 : decode cX10_need 25 = .ok (.iaload, 1) := by decide +kernel
theorem dX10_need_26 : decode cX10_need 26 = .ok (.iload_n 2, 1) := by decide +kernel
theorem dX10_need_27 : decode cX10_need 27 = .ok (.invokestatic 347, 3) := by decide +kernel
theorem dX10_need_30 : decode cX10_need 30 = .ok (.istore 4, 2) := by decide +kernel
theorem dX10_need_32 : decode cX10_need 32 = .ok (.aload_n 0, 1) := by decide +kernel
theorem dX10_need_33 : decode cX10_need 33 = .ok (.getfield 27, 3) := by decide +kernel
theorem dX10_need_36 : decode cX10_need 36 = .ok (.getfield 161, 3) := by decide +kernel
theorem dX10_need_39 : decode cX10_need 39 = .ok (.iload_n 1, 1) := by decide +kernel
theorem dX10_need_40 : decode cX10_need 40 = .ok (.aload_n 0, 1) := by decide +kernel
theorem dX10_need_41 : decode cX10_need 41 = .ok (.getfield 27, 3) := by decide +kernel
theorem dX10_need_44 : decode cX10_need 44 = .ok (.getfield 161, 3) := by decide +kernel
theorem dX10_need_47 : decode cX10_need 47 = .ok (.iload_n 1, 1) := by decide +kernel
theorem dX10_need_48 : decode cX10_need 48 = .ok (.iaload, 1) := by decide +kernel
theorem dX10_need_49 : decode cX10_need 49 = .ok (.iload_n 2, 1) := by decide +kernel
theorem dX10_need_50 : decode cX10_need 50 = .ok (.iload_n 3, 1) := by decide +kernel
theorem dX10_need_51 : decode cX10_need 51 = .ok (.invokestatic 351, 3) := by decide +kernel
theorem dX10_need_54 : decode cX10_need 54 = .ok (.iastore, 1) := by decide +kernel
theorem dX10_need_55 : decode cX10_need 55 = .ok (.aload_n 0, 1) := by decide +kernel
theorem dX10_need_56 : decode cX10_need 56 = .ok (.invokevirtual 137, 3) := by decide +kernel
theorem dX10_need_59 : decode cX10_need 59 = .ok (.iload 4, 2) := by decide +kernel
theorem dX10_need_61 : decode cX10_need 61 = .ok (.ireturn, 1) := by decide +kernel
set_option maxRecDepth 20000 in
theorem ggX10_must_X10_requireItem : GoodIn wsX10_must wsX10_requireItem := goodIn_ca (goodIn_r _ [8, 9, 10, 2, 11, 12, 13, 14, 15, 16, 59, 60, 61, 62, 63, 64, 65, 66, 67, 68, 69, 70, 71, 72, 73, 74, 75, 76, 77, 78, 79, 80, 81, 82, 83, 84, 85, 86, 87, 88] (by decide +kernel) (by decide +kernel)) (goodIn_sub (fun _ h => List.mem_cons_of_mem _ (List.mem_append_right _ h)) (by decide +kernel))
set_option maxRecDepth 20000 in
theorem gX10_must_X10_requireItem : GoodIn wsX10_must (wsV RX10 173 RX10 yX10_requireItem wsX10_requireItem) := goodIn_app (goodIn_of _ (by decide +kernel)) ggX10_must_X10_requireItem
set_option maxRecDepth 20000 in
theorem ggX10_must_X6_push : GoodIn wsX10_must wsX6_push := goodIn_r _ [21, 22, 23, 24, 25, 26, 20, 27, 28, 29, 30, 14, 31, 16, 32, 33, 34, 35, 36, 37, 38, 39, 40, 41, 42, 43, 44, 45, 89, 90, 78, 79, 80, 81, 82, 83, 84, 85, 86, 87, 88] (by decide +kernel) (by decide +kernel)
set_option maxRecDepth 20000 in
theorem gX10_must_X6_push : GoodIn wsX10_must (wsV RX10 127 RX6 yX6_push wsX6_push) := goodIn_app (goodIn_of _ (by decide +kernel)) ggX10_must_X6_push
set_option maxRecDepth 20000 in
theorem ggX10_must_X10_hasBit : GoodIn wsX10_must wsX10_hasBit := goodIn_r _ [48] (by decide +kernel) (by decide +kernel)
set_option maxRecDepth 20000 in
theorem gX10_must_X10_hasBit : GoodIn wsX10_must (va_wsS RX10 347 yX10_hasBit wsX10_hasBit) := goodIn_app (goodIn_of _ (by decide +kernel)) ggX10_must_X10_hasBit
set_option maxRecDepth 20000 in
theorem ggX10_must_X10_withBit : GoodIn wsX10_must wsX10_withBit := goodIn_r _ [51] (by decide +kernel) (by decide +kernel)
set_option maxRecDepth 20000 in
theorem gX10_must_X10_withBit : GoodIn wsX10_must (va_wsS RX10 351 yX10_withBit wsX10_withBit) := goodIn_app (goodIn_of _ (by decide +kernel)) ggX10_must_X10_withBit
set_option maxRecDepth 20000 in
theorem ggX10_must_X10_markChanged : GoodIn wsX10_must wsX10_markChanged := goodIn_r _ [55, 56, 57, 58, 59, 60, 61, 62, 63, 64, 65, 66, 67, 68, 69, 70, 71, 72, 73, 74, 75, 76, 77] (by decide +kernel) (by decide +kernel)
set_option maxRecDepth 20000 in
theorem gX10_must_X10_markChanged : GoodIn wsX10_must (wsV RX10 137 RX10 yX10_markChanged wsX10_markChanged) := goodIn_app (goodIn_of _ (by decide +kernel)) ggX10_must_X10_markChanged
theorem dX10_must_0 : decode cX10_must 0 = .ok (.aload_n 0, 1) := by decide +kernel
theorem dX10_must_1 : decode cX10_must 1 = .ok (.iload_n 1, 1) := by decide +kernel
theorem dX10_must_2 : decode cX10_must 2 = .ok (.invokevirtual 173, 3) := by decide +kernel
theorem dX10_must_5 : decode cX10_must 5 = .ok (.aload_n 0, 1) := by decide +kernel
theorem dX10_must_6 : decode cX10_must 6 = .ok (.getfield 34, 3) := by decide +kernel
theorem dX10_must_9 : decode cX10_must 9 = .ok (.aload_n 0, 1) := by decide +kernel
theorem dX10_must_10 : decode cX10_must 10 = .ok (.getfield 27, 3) := by decide +kernel
theorem dX10_must_13 : decode cX10_must 13 = .ok (.invokevirtual 127, 3) := by decide +kernel
theorem dX10_must_16 : decode cX10_must 16 = .ok (.aload_n 0, 1) := by decide +kernel
theorem dX10_must_17 : decode cX10_must 17 = .ok (.getfield 27, 3) := by decide +kernel
theorem dX10_must_20 : decode cX10_must 20 = .ok (.getfield 164, 3) := by decide +kernel
theorem dX10_must_23 : decode cX10_must 23 = .ok (.iload_n 1, 1) := by decide +kernel
theorem dX10_must_24 : decode cX10_must 24 = .ok (.invokestatic 347, 3) := by decide +kernel
theorem dX10_must_27 : decode cX10_must 27 = .ok (.istore_n 3, 1) := by decide +kernel
theorem dX10_must_28 : decode cX10_must 28 = .ok (.aload_n 0, 1) := by decide +kernel
theorem dX10_must_29 : decode cX10_must 29 = .ok (.getfield 27, 3) := by decide +kernel
theorem dX10_must_32 : decode cX10_must 32 = .ok (.aload_n 0, 1) := by decide +kernel
theorem dX10_must_33 : decode cX10_must 33 = .ok (.getfield 27, 3) := by decide +kernel
theorem dX10_must_36 : decode cX10_must 36 = .ok (.getfield 164, 3) := by decide +kernel
theorem dX10_must_39 : decode cX10_must 39 = .ok (.iload_n 1, 1) := by decide +kernel
theorem dX10_must_40 : decode cX10_must 40 = .ok (.iload_n 2, 1) := by decide +kernel
theorem dX10_must_41 : decode cX10_must 41 = .ok (.invokestatic 351, 3) := by decide +kernel
theorem dX10_must_44 : decode cX10_must 44 = .ok (.putfield 164, 3) := by decide +kernel
theorem dX10_must_47 : decode cX10_must 47 = .ok (.aload_n 0, 1) := by decide +kernel
theorem dX10_must_48 : decode cX10_must 48 = .ok (.invokevirtual 137, 3) := by decide +kernel
theorem dX10_must_51 : decode cX10_must 51 = .ok (.iload_n 3, 1) := by decide +kernel
theorem dX10_must_52 : decode cX10_must 52 = .ok (.ireturn, 1) := by decide +kernel
set_option maxRecDepth 20000 in
theorem ggX10_never_X10_requireItem : GoodIn wsX10_never wsX10_requireItem := goodIn_ca (goodIn_r _ [8, 9, 10, 2, 11, 12, 13, 14, 15, 16, 59, 60, 61, 62, 63, 64, 65, 66, 67, 68, 69, 70, 71, 72, 73, 74, 75, 76, 77, 78, 79, 80, 81, 82, 83, 84, 85, 86, 87, 88] (by decide +kernel) (by decide +kernel)) (goodIn_sub (fun _ h => List.mem_cons_of_mem _ (List.mem_append_right _ h)) (by decide +kernel))
set_option maxRecDepth 20000 in
theorem gX10_never_X10_requireItem : GoodIn wsX10_never (wsV RX10 173 RX10 yX10_requireItem wsX10_requireItem) := goodIn_app (goodIn_of _ (by decide +kernel)) ggX10_never_X10_requireItem
set_option maxRecDepth 20000 in
theorem ggX10_never_X6_push : GoodIn wsX10_never wsX6_push := goodIn_r _ [21, 22, 23, 24, 25, 26, 20, 27, 28, 29, 30, 14, 31, 16, 32, 33, 34, 35, 36, 37, 38, 39, 40, 41, 42, 43, 44, 45, 89, 90, 78, 79, 80, 81, 82, 83, 84, 85, 86, 87, 88] (by decide +kernel) (by decide +kernel)
set_option maxRecDepth 20000 in
theorem gX10_never_X6_push : GoodIn wsX10_never (wsV RX10 127 RX6 yX6_push wsX6_push) := goodIn_app (goodIn_of _ (by decide +kernel)) ggX10_never_X6_push
set_option maxRecDepth 20000 in
theorem ggX10_never_X10_hasBit : GoodIn wsX10_never wsX10_hasBit := goodIn_r _ [48] (by decide +kernel) (by decide +kernel)
set_option maxRecDepth 20000 in
theorem gX10_never_X10_hasBit : GoodIn wsX10_never (va_wsS RX10 347 yX10_hasBit wsX10_hasBit) := goodIn_app (goodIn_of _ (by decide +kernel)) ggX10_never_X10_hasBit
set_option maxRecDepth 20000 in
theorem ggX10_never_X10_withBit : GoodIn wsX10_never wsX10_withBit := goodIn_r _ [51] (by decide +kernel) (by decide +kernel)
set_option maxRecDepth 20000 in
theorem gX10_never_X10_withBit : GoodIn wsX10_never (va_wsS RX10 351 yX10_withBit wsX10_withBit) := goodIn_app (goodIn_of _ (by decide +kernel)) ggX10_never_X10_withBit
set_option maxRecDepth 20000 in
theorem ggX10_never_X10_markChanged : GoodIn wsX10_never wsX10_markChanged := goodIn_r _ [55, 56, 57, 58, 59, 60, 61, 62, 63, 64, 65, 66, 67, 68, 69, 70, 71, 72, 73, 74, 75, 76, 77] (by decide +kernel) (by decide +kernel)
set_option maxRecDepth 20000 in
theorem gX10_never_X10_markChanged : GoodIn wsX10_never (wsV RX10 137 RX10 yX10_markChanged wsX10_markChanged) := goodIn_app (goodIn_of _ (by decide +kernel)) ggX10_never_X10_markChanged
theorem dX10_never_0 : decode cX10_never 0 = .ok (.aload_n 0, 1) := by decide +kernel
theorem dX10_never_1 : decode cX10_never 1 = .ok (.iload_n 1, 1) := by decide +kernel
theorem dX10_never_2 : decode cX10_never 2 = .ok (.invokevirtual 173, 3) := by decide +kernel
theorem dX10_never_5 : decode cX10_never 5 = .ok (.aload_n 0, 1) := by decide +kernel
theorem dX10_never_6 : decode cX10_never 6 = .ok (.getfield 34, 3) := by decide +kernel
theorem dX10_never_9 : decode cX10_never 9 = .ok (.aload_n 0, 1) := by decide +kernel
theorem dX10_never_10 : decode cX10_never 10 = .ok (.getfield 27, 3) := by decide +kernel
theorem dX10_never_13 : decode cX10_never 13 = .ok (.invokevirtual 127, 3) := by decide +kernel
theorem dX10_never_16 : decode cX10_never 16 = .ok (.aload_n 0, 1) := by decide +kernel
theorem dX10_never_17 : decode cX10_never 17 = .ok (.getfield 27, 3) := by decide +kernel
theorem dX10_never_20 : decode cX10_never 20 = .ok (.getfield 167, 3) := by decide +kernel
theorem dX10_never_23 : decode cX10_never 23 = .ok (.iload_n 1, 1) := by decide +kernel
theorem dX10_never_24 : decode cX10_never 24 = .ok (.invokestatic 347, 3) := by decide +kernel
theorem dX10_never_27 : decode cX10_never 27 = .ok (.istore_n 3, 1) := by decide +kernel
theorem dX10_never_28 : decode cX10_never 28 = .ok (.aload_n 0, 1) := by decide +kernel
theorem dX10_never_29 : decode cX10_never 29 = .ok (.getfield 27, 3) := by decide +kernel
theorem dX10_never_32 : decode cX10_never 32 = .ok (.aload_n 0, 1) := by decide +kernel
theorem dX10_never_33 : decode cX10_never 33 = .ok (.getfield 27, 3) := by decide +kernel
theorem dX10_never_36 : decode cX10_never 36 = .ok (.getfield 167, 3) := by decide +kernel
theorem dX10_never_39 : decode cX10_never 39 = .ok (.iload_n 1, 1) := by decide +kernel
theorem dX10_never_40 : decode cX10_never 40 = .ok (.iload_n 2, 1) := by decide +kernel
theorem dX10_never_41 : decode cX10_never 41 = .ok (.invokestatic 351, 3) := by decide +kernel
theorem dX10_never_44 : decode cX10_never 44 = .ok (.putfield 167, 3) := by decide +kernel
theorem dX10_never_47 : decode cX10_never 47 = .ok (.aload_n 0, 1) := by decide +kernel
theorem dX10_never_48 : decode cX10_never 48 = .ok (.invokevirtual 137, 3) := by decide +kernel
theorem dX10_never_51 : decode cX10_never 51 = .ok (.iload_n 3, 1) := by decide +kernel
theorem dX10_never_52 : decode cX10_never 52 = .ok (.ireturn, 1) := by decide +kernel
set_option maxRecDepth 20000 in
theorem ggX10_choose_X10_requireSet : GoodIn wsX10_choose wsX10_requireSet := goodIn_ca (goodIn_r _ [7, 8, 9, 1, 10, 11, 12, 13, 14, 15, 186, 187, 188, 189, 190, 191, 192, 193, 194, 195, 196, 197, 198, 199, 200, 201, 202, 203, 204, 205, 206, 207, 208, 209, 210, 211, 212, 213, 214, 215] (by decide +kernel) (by decide +kernel)) (goodIn_sub (fun _ h => List.mem_cons_of_mem _ (List.mem_append_left _ (List.mem_append_right _ h))) (by decide +kernel))
set_option maxRecDepth 20000 in
theorem gX10_choose_X10_requireSet : GoodIn wsX10_choose (wsV RX10 185 RX10 yX10_requireSet wsX10_requireSet) := goodIn_app (goodIn_of _ (by decide +kernel)) ggX10_choose_X10_requireSet
set_option maxRecDepth 20000 in
theorem ggX10_choose_X10_requireAllowed : GoodIn wsX10_choose wsX10_requireAllowed := goodIn_ca (goodIn_r _ [19, 20, 21, 22, 1, 23, 24, 25, 26, 6, 27, 28, 29, 30, 31, 32, 33, 34, 35, 36, 37, 38, 39, 40, 41, 42, 43, 44, 45, 46, 47, 48, 49, 50, 51, 52, 53, 54, 55, 56, 57, 58, 59, 60, 61, 62, 63, 64, 65, 66, 67, 68, 69, 70, 71, 72, 73, 74, 75, 76, 77, 78, 79, 80, 81, 82, 83, 84, 85, 86, 87, 88, 89, 90, 91, 92, 93, 94, 95, 96, 97, 98, 99, 100, 101, 102, 103, 104, 105, 106, 107, 108, 109, 110, 111, 112, 113, 114, 115, 116, 117, 118, 119, 120, 121, 122, 123, 124, 125, 126, 127, 128, 129, 130, 131, 132, 133, 134, 135, 136, 137, 138, 139, 140, 141, 142, 143, 144, 145, 146, 147, 148, 149, 150, 151, 186, 187, 188, 189, 190, 191, 192, 193, 194, 195, 196, 197, 198, 199, 200, 201, 202, 203, 204, 205, 206, 207, 208, 209, 210, 211, 212, 213, 214, 215, 216, 217, 218, 219, 220, 221, 222, 223, 224, 225, 226, 227, 228, 229, 230, 231, 232, 233, 234, 235, 236, 237, 238, 239] (by decide +kernel) (by decide +kernel)) (goodIn_sub (fun _ h => List.mem_cons_of_mem _ (List.mem_append_right _ h)) (by decide +kernel))
set_option maxRecDepth 20000 in
theorem gX10_choose_X10_requireAllowed : GoodIn wsX10_choose (wsV RX10 355 RX10 yX10_requireAllowed wsX10_requireAllowed) := goodIn_app (goodIn_of _ (by decide +kernel)) ggX10_choose_X10_requireAllowed
set_option maxRecDepth 20000 in
theorem ggX10_choose_X10_takeInHand : GoodIn wsX10_choose wsX10_takeInHand := goodIn_r _ [155, 156, 1, 2, 157, 158, 159, 160, 161, 162, 163, 164, 165, 166, 167, 168, 169, 170, 13, 171, 15, 172, 173, 174, 175, 176, 177, 178, 179, 180, 181, 182, 183, 184, 185, 186, 187, 188, 189, 190, 191, 192, 193, 194, 195, 196, 197, 198, 199, 200, 201, 202, 203, 204, 205, 206, 207, 208, 209, 210, 211, 212, 213, 214, 215, 240, 241] (by decide +kernel) (by decide +kernel)
set_option maxRecDepth 20000 in
theorem gX10_choose_X10_takeInHand : GoodIn wsX10_choose (wsV RX10 358 RX10 yX10_takeInHand wsX10_takeInHand) := goodIn_app (goodIn_of _ (by decide +kernel)) ggX10_choose_X10_takeInHand
theorem dX10_choose_0 : decode cX10_choose 0 = .ok (.aload_n 0, 1) := by decide +kernel
theorem dX10_choose_1 : decode cX10_choose 1 = .ok (.iload_n 1, 1) := by decide +kernel
theorem dX10_choose_2 : decode cX10_choose 2 = .ok (.invokevirtual 185, 3) := by decide +kernel
theorem dX10_choose_5 : decode cX10_choose 5 = .ok (.aload_n 0, 1) := by decide +kernel
theorem dX10_choose_6 : decode cX10_choose 6 = .ok (.iload_n 1, 1) := by decide +kernel
theorem dX10_choose_7 : decode cX10_choose 7 = .ok (.invokevirtual 355, 3) := by decide +kernel
theorem dX10_choose_10 : decode cX10_choose 10 = .ok (.aload_n 0, 1) := by decide +kernel
theorem dX10_choose_11 : decode cX10_choose 11 = .ok (.getfield 27, 3) := by decide +kernel
theorem dX10_choose_14 : decode cX10_choose 14 = .ok (.getfield 170, 3) := by decide +kernel
theorem dX10_choose_17 : decode cX10_choose 17 = .ok (.istore_n 2, 1) := by decide +kernel
theorem dX10_choose_18 : decode cX10_choose 18 = .ok (.aload_n 0, 1) := by decide +kernel
theorem dX10_choose_19 : decode cX10_choose 19 = .ok (.iload_n 1, 1) := by decide +kernel
theorem dX10_choose_20 : decode cX10_choose 20 = .ok (.invokevirtual 358, 3) := by decide +kernel
theorem dX10_choose_23 : decode cX10_choose 23 = .ok (.iload_n 2, 1) := by decide +kernel
theorem dX10_choose_24 : decode cX10_choose 24 = .ok (.ireturn, 1) := by decide +kernel
set_option maxRecDepth 20000 in
theorem ggX10_chooseBest_X10_requireWeights : GoodIn wsX10_chooseBest wsX10_requireWeights := goodIn_ca (goodIn_r _ [10, 11, 12, 13, 14, 9, 15] (by decide +kernel) (by decide +kernel)) (goodIn_sub (fun _ h => List.mem_cons_of_mem _ (List.mem_append_right _ h)) (by decide +kernel))
set_option maxRecDepth 20000 in
theorem gX10_chooseBest_X10_requireWeights : GoodIn wsX10_chooseBest (va_wsS RX10 228 yX10_requireWeights wsX10_requireWeights) := goodIn_app (goodIn_of _ (by decide +kernel)) ggX10_chooseBest_X10_requireWeights
set_option maxRecDepth 20000 in
theorem ggX10_chooseBest_X10_refreshFrontier : GoodIn wsX10_chooseBest wsX10_refreshFrontier := goodIn_r _ [19, 20, 21, 5, 22, 23, 3, 24, 25, 26, 27, 28, 29, 30, 31, 32, 33, 34, 35, 36, 37, 38, 39, 40, 41, 42, 43, 44, 45, 46, 47, 48, 49, 50, 51, 52, 53, 54, 55, 56, 57, 58, 59, 60, 61, 62, 63, 64, 65, 66, 67, 68, 69, 70, 71, 72, 73, 74, 75, 76, 77, 78, 79, 80, 81, 82, 83, 84, 85, 86, 87, 88, 89, 90, 91, 92, 93, 94, 95, 96, 97, 98, 99, 100, 101, 102, 103, 104, 105, 106, 107, 108, 109, 110, 111, 112, 113, 114, 115, 116, 117, 118, 119, 120, 121, 122, 123, 124, 125, 126, 127, 128, 129, 130, 131, 132, 133, 134, 135, 136, 137, 138, 139, 140, 141, 142, 143, 188, 189, 190, 191, 192, 193, 194, 195, 196, 197, 198, 199, 200, 201, 202, 203, 204, 205, 206, 220, 221, 222, 223, 224, 225, 226, 227, 228, 229, 230, 231, 232, 233, 234, 235, 236, 237, 238, 239, 240, 241, 207, 208, 209, 210, 211, 212, 213, 214, 215, 216, 217, 218, 219] (by decide +kernel) (by decide +kernel)
set_option maxRecDepth 20000 in
theorem gX10_chooseBest_X10_refreshFrontier : GoodIn wsX10_chooseBest (wsV RX10 188 RX10 yX10_refreshFrontier wsX10_refreshFrontier) := goodIn_app (goodIn_of _ (by decide +kernel)) ggX10_chooseBest_X10_refreshFrontier
set_option maxRecDepth 20000 in
theorem ggX10_chooseBest_X2_greatestBy : GoodIn wsX10_chooseBest wsX2_greatestBy := goodIn_r _ [147, 100, 148, 149, 150, 87, 151, 103, 104, 207, 208, 209, 210, 211, 212, 213, 214, 215, 216, 217, 218, 219] (by decide +kernel) (by decide +kernel)
set_option maxRecDepth 20000 in
theorem gX10_chooseBest_X2_greatestBy : GoodIn wsX10_chooseBest (wsV RX10 231 RX2 yX2_greatestBy wsX2_greatestBy) := goodIn_app (goodIn_of _ (by decide +kernel)) ggX10_chooseBest_X2_greatestBy
set_option maxRecDepth 20000 in
theorem ggX10_chooseBest_X10_takeInHand : GoodIn wsX10_chooseBest wsX10_takeInHand := goodIn_r _ [155, 156, 5, 6, 157, 158, 159, 160, 161, 162, 163, 164, 165, 166, 167, 168, 169, 170, 171, 172, 173, 174, 175, 176, 177, 178, 179, 180, 181, 182, 183, 184, 185, 186, 187, 188, 189, 190, 191, 192, 193, 194, 195, 196, 197, 198, 199, 200, 201, 202, 203, 204, 205, 206, 220, 221, 222, 223, 224, 225, 226, 227, 228, 229, 230, 242, 243] (by decide +kernel) (by decide +kernel)
set_option maxRecDepth 20000 in
theorem gX10_chooseBest_X10_takeInHand : GoodIn wsX10_chooseBest (wsV RX10 358 RX10 yX10_takeInHand wsX10_takeInHand) := goodIn_app (goodIn_of _ (by decide +kernel)) ggX10_chooseBest_X10_takeInHand
theorem dX10_chooseBest_0 : decode cX10_chooseBest 0 = .ok (.iload_n 1, 1) := by decide +kernel
theorem dX10_chooseBest_1 : decode cX10_chooseBest 1 = .ok (.iload_n 2, 1) := by decide +kernel
theorem dX10_chooseBest_2 : decode cX10_chooseBest 2 = .ok (.invokestatic 228, 3) := by decide +kernel
theorem dX10_chooseBest_5 : decode cX10_chooseBest 5 = .ok (.aload_n 0, 1) := by decide +kernel
theorem dX10_chooseBest_6 : decode cX10_chooseBest 6 = .ok (.invokevirtual 188, 3) := by decide +kernel
theorem dX10_chooseBest_9 : decode cX10_chooseBest 9 = .ok (.aload_n 0, 1) := by decide +kernel
theorem dX10_chooseBest_10 : decode cX10_chooseBest 10 = .ok (.getfield 70, 3) := by decide +kernel
theorem dX10_chooseBest_13 : decode cX10_chooseBest 13 = .ok (.iload_n 1, 1) := by decide +kernel
theorem dX10_chooseBest_14 : decode cX10_chooseBest 14 = .ok (.iload_n 2, 1) := by decide +kernel
theorem dX10_chooseBest_15 : decode cX10_chooseBest 15 = .ok (.invokevirtual 231, 3) := by decide +kernel
theorem dX10_chooseBest_18 : decode cX10_chooseBest 18 = .ok (.istore_n 3, 1) := by decide +kernel
theorem dX10_chooseBest_19 : decode cX10_chooseBest 19 = .ok (.iload_n 3, 1) := by decide +kernel
theorem dX10_chooseBest_20 : decode cX10_chooseBest 20 = .ok (.iconst (-1), 1) := by decide +kernel
theorem dX10_chooseBest_21 : decode cX10_chooseBest 21 = .ok (.if_icmp .ne 14, 3) := by decide +kernel
theorem dX10_chooseBest_24 : decode cX10_chooseBest 24 = .ok (.new 98, 3) := by decide +kernel
theorem dX10_chooseBest_27 : decode cX10_chooseBest 27 = .ok (.dup, 1) := by decide +kernel
theorem dX10_chooseBest_28 : decode cX10_chooseBest 28 = .ok (.ldc_w 361, 3) := by decide +kernel
theorem dX10_chooseBest_31 : decode cX10_chooseBest 31 = .ok (.invokespecial 102, 3) := by decide +kernel
theorem dX10_chooseBest_34 : decode cX10_chooseBest 34 = .ok (.athrow, 1) := by decide +kernel
theorem dX10_chooseBest_35 : decode cX10_chooseBest 35 = .ok (.aload_n 0, 1) := by decide +kernel
theorem dX10_chooseBest_36 : decode cX10_chooseBest 36 = .ok (.aload_n 0, 1) := by decide +kernel
theorem dX10_chooseBest_37 : decode cX10_chooseBest 37 = .ok (.getfield 70, 3) := by decide +kernel
theorem dX10_chooseBest_40 : decode cX10_chooseBest 40 = .ok (.getfield 209, 3) := by decide +kernel
theorem dX10_chooseBest_43 : decode cX10_chooseBest 43 = .ok (.iload_n 3, 1) := by decide +kernel
theorem dX10_chooseBest_44 : decode cX10_chooseBest 44 = .ok (.iaload, 1) := by decide +kernel
theorem dX10_chooseBest_45 : decode cX10_chooseBest 45 = .ok (.invokevirtual 358, 3) := by decide +kernel
theorem dX10_chooseBest_48 : decode cX10_chooseBest 48 = .ok (.aload_n 0, 1) := by decide +kernel
theorem dX10_chooseBest_49 : decode cX10_chooseBest 49 = .ok (.getfield 27, 3) := by decide +kernel
theorem dX10_chooseBest_52 : decode cX10_chooseBest 52 = .ok (.getfield 170, 3) := by decide +kernel
theorem dX10_chooseBest_55 : decode cX10_chooseBest 55 = .ok (.ireturn, 1) := by decide +kernel
set_option maxRecDepth 20000 in
theorem ggX10_improve_X10_requireWeights : GoodIn wsX10_improve wsX10_requireWeights := goodIn_ca (goodIn_r _ [9, 10, 11, 12, 13, 8, 14] (by decide +kernel) (by decide +kernel)) (goodIn_sub (fun _ h => List.mem_cons_of_mem _ (List.mem_append_right _ h)) (by decide +kernel))
set_option maxRecDepth 20000 in
theorem gX10_improve_X10_requireWeights : GoodIn wsX10_improve (va_wsS RX10 228 yX10_requireWeights wsX10_requireWeights) := goodIn_app (goodIn_of _ (by decide +kernel)) ggX10_improve_X10_requireWeights
set_option maxRecDepth 20000 in
theorem ggX10_improve_X10_refreshFrontier : GoodIn wsX10_improve wsX10_refreshFrontier := goodIn_r _ [18, 19, 2, 3, 20, 21, 22, 23, 24, 25, 26, 27, 28, 29, 30, 31, 32, 33, 34, 35, 36, 37, 38, 39, 40, 41, 42, 43, 44, 45, 46, 47, 48, 49, 50, 51, 52, 53, 54, 55, 56, 57, 58, 59, 60, 61, 62, 63, 64, 65, 66, 67, 68, 69, 70, 71, 72, 73, 74, 75, 76, 77, 78, 79, 80, 81, 82, 83, 84, 85, 86, 87, 88, 89, 90, 91, 92, 93, 94, 95, 96, 97, 98, 99, 100, 101, 102, 103, 104, 105, 106, 107, 108, 109, 110, 111, 112, 113, 114, 115, 116, 117, 118, 119, 120, 121, 122, 123, 124, 125, 126, 127, 128, 129, 130, 131, 132, 133, 134, 135, 136, 137, 138, 139, 140, 141, 142, 208, 209, 210, 211, 212, 213, 214, 215, 216, 217, 218, 219, 220, 221, 222, 223, 224, 225, 226, 231, 232, 233, 234, 235, 236, 237, 238, 239, 240, 241, 242, 243, 244, 245, 246, 247, 248, 249, 250, 251, 252, 253, 254, 255, 256, 257, 258, 259, 260, 261, 262, 263, 264, 265] (by decide +kernel) (by decide +kernel)
set_option maxRecDepth 20000 in
theorem gX10_improve_X10_refreshFrontier : GoodIn wsX10_improve (wsV RX10 188 RX10 yX10_refreshFrontier wsX10_refreshFrontier) := goodIn_app (goodIn_of _ (by decide +kernel)) ggX10_improve_X10_refreshFrontier
set_option maxRecDepth 20000 in
theorem ggX10_improve_X1_run : GoodIn wsX10_improve wsX1_run := goodIn_r _ [147, 148, 149, 150, 151, 152, 153, 154, 155, 146, 156, 157, 158, 159, 160, 161, 162, 163, 61, 62, 26, 63, 36, 64, 65, 66, 67, 29, 42, 44, 31, 33, 68, 69, 70, 71, 72, 73, 74, 164, 165, 166, 167, 168, 169, 8, 170, 231, 232, 233, 234, 235, 236, 237, 238, 239, 240, 241, 227, 228, 229, 230, 242, 243, 244, 245, 246, 247, 248, 249, 250] (by decide +kernel) (by decide +kernel)
set_option maxRecDepth 20000 in
theorem gX10_improve_X1_run : GoodIn wsX10_improve (wsV RX10 323 RX1 yX1_run wsX1_run) := goodIn_app (goodIn_of _ (by decide +kernel)) ggX10_improve_X1_run
set_option maxRecDepth 20000 in
theorem ggX10_improve_X10_takeInHand : GoodIn wsX10_improve wsX10_takeInHand := goodIn_r _ [174, 175, 3, 176, 177, 178, 179, 180, 181, 182, 183, 184, 185, 186, 187, 188, 189, 190, 191, 192, 193, 194, 195, 196, 197, 198, 199, 200, 201, 202, 203, 204, 205, 206, 207, 208, 209, 210, 211, 212, 213, 214, 215, 216, 217, 218, 219, 220, 221, 222, 223, 224, 225, 226, 231, 232, 233, 234, 235, 236, 237, 238, 239, 240, 241, 266, 267] (by decide +kernel) (by decide +kernel)
set_option maxRecDepth 20000 in
theorem gX10_improve_X10_takeInHand : GoodIn wsX10_improve (wsV RX10 358 RX10 yX10_takeInHand wsX10_takeInHand) := goodIn_app (goodIn_of _ (by decide +kernel)) ggX10_improve_X10_takeInHand
theorem dX10_improve_0 : decode cX10_improve 0 = .ok (.iload_n 1, 1) := by decide +kernel
theorem dX10_improve_1 : decode cX10_improve 1 = .ok (.iload_n 2, 1) := by decide +kernel
theorem dX10_improve_2 : decode cX10_improve 2 = .ok (.invokestatic 228, 3) := by decide +kernel
theorem dX10_improve_5 : decode cX10_improve 5 = .ok (.aload_n 0, 1) := by decide +kernel
theorem dX10_improve_6 : decode cX10_improve 6 = .ok (.invokevirtual 188, 3) := by decide +kernel
theorem dX10_improve_9 : decode cX10_improve 9 = .ok (.aload_n 0, 1) := by decide +kernel
theorem dX10_improve_10 : decode cX10_improve 10 = .ok (.getfield 91, 3) := by decide +kernel
theorem dX10_improve_13 : decode cX10_improve 13 = .ok (.aload_n 0, 1) := by decide +kernel
theorem dX10_improve_14 : decode cX10_improve 14 = .ok (.getfield 56, 3) := by decide +kernel
theorem dX10_improve_17 : decode cX10_improve 17 = .ok (.aload_n 0, 1) := by decide +kernel
theorem dX10_improve_18 : decode cX10_improve 18 = .ok (.getfield 27, 3) := by decide +kernel
theorem dX10_improve_21 : decode cX10_improve 21 = .ok (.iload_n 1, 1) := by decide +kernel
theorem dX10_improve_22 : decode cX10_improve 22 = .ok (.iload_n 2, 1) := by decide +kernel
theorem dX10_improve_23 : decode cX10_improve 23 = .ok (.invokevirtual 323, 3) := by decide +kernel
theorem dX10_improve_26 : decode cX10_improve 26 = .ok (.aload_n 0, 1) := by decide +kernel
theorem dX10_improve_27 : decode cX10_improve 27 = .ok (.aload_n 0, 1) := by decide +kernel
theorem dX10_improve_28 : decode cX10_improve 28 = .ok (.getfield 91, 3) := by decide +kernel
theorem dX10_improve_31 : decode cX10_improve 31 = .ok (.getfield 327, 3) := by decide +kernel
theorem dX10_improve_34 : decode cX10_improve 34 = .ok (.invokevirtual 358, 3) := by decide +kernel
theorem dX10_improve_37 : decode cX10_improve 37 = .ok (.aload_n 0, 1) := by decide +kernel
theorem dX10_improve_38 : decode cX10_improve 38 = .ok (.getfield 91, 3) := by decide +kernel
theorem dX10_improve_41 : decode cX10_improve 41 = .ok (.getfield 363, 3) := by decide +kernel
theorem dX10_improve_44 : decode cX10_improve 44 = .ok (.ireturn, 1) := by decide +kernel
set_option maxRecDepth 20000 in
theorem ggX10_take_X10_requireItem : GoodIn wsX10_take wsX10_requireItem := goodIn_ca (goodIn_r _ [11, 12, 13, 3, 14, 15, 16, 17, 18, 19, 193, 194, 195, 196, 197, 198, 199, 200, 201, 202, 203, 204, 205, 206, 207, 208, 209, 210, 211, 212, 213, 214, 215, 216, 217, 218, 219, 220, 221, 222] (by decide +kernel) (by decide +kernel)) (goodIn_sub (fun _ h => List.mem_cons_of_mem _ (List.mem_append_right _ h)) (by decide +kernel))
set_option maxRecDepth 20000 in
theorem gX10_take_X10_requireItem : GoodIn wsX10_take (wsV RX10 173 RX10 yX10_requireItem wsX10_requireItem) := goodIn_app (goodIn_of _ (by decide +kernel)) ggX10_take_X10_requireItem
set_option maxRecDepth 20000 in
theorem ggX10_take_X10_hasBit : GoodIn wsX10_take wsX10_hasBit := goodIn_r _ [22] (by decide +kernel) (by decide +kernel)
set_option maxRecDepth 20000 in
theorem gX10_take_X10_hasBit : GoodIn wsX10_take (va_wsS RX10 347 yX10_hasBit wsX10_hasBit) := goodIn_app (goodIn_of _ (by decide +kernel)) ggX10_take_X10_hasBit
set_option maxRecDepth 20000 in
theorem ggX10_take_X10_withBit : GoodIn wsX10_take wsX10_withBit := goodIn_r _ [25] (by decide +kernel) (by decide +kernel)
set_option maxRecDepth 20000 in
theorem gX10_take_X10_withBit : GoodIn wsX10_take (va_wsS RX10 351 yX10_withBit wsX10_withBit) := goodIn_app (goodIn_of _ (by decide +kernel)) ggX10_take_X10_withBit
set_option maxRecDepth 20000 in
theorem ggX10_take_X10_requireAllowed : GoodIn wsX10_take wsX10_requireAllowed := goodIn_ca (goodIn_r _ [29, 1, 2, 5, 3, 30, 31, 32, 33, 10, 34, 35, 36, 37, 38, 39, 40, 41, 42, 43, 44, 45, 46, 47, 48, 49, 50, 51, 52, 53, 54, 55, 56, 57, 58, 59, 60, 61, 62, 63, 64, 65, 66, 67, 68, 69, 70, 71, 72, 73, 74, 75, 76, 77, 78, 79, 80, 81, 82, 83, 84, 85, 86, 87, 88, 89, 90, 91, 92, 93, 94, 95, 96, 97, 98, 99, 100, 101, 102, 103, 104, 105, 106, 107, 108, 109, 110, 111, 112, 113, 114, 115, 116, 117, 118, 119, 120, 121, 122, 123, 124, 125, 126, 127, 128, 129, 130, 131, 132, 133, 134, 135, 136, 137, 138, 139, 140, 141, 142, 143, 144, 145, 146, 147, 148, 149, 150, 151, 152, 153, 154, 155, 156, 157, 158, 193, 194, 195, 196, 197, 198, 199, 200, 201, 202, 203, 204, 205, 206, 207, 208, 209, 210, 211, 212, 213, 214, 215, 216, 217, 218, 219, 220, 221, 222, 223, 224, 225, 226, 227, 228, 229, 230, 231, 232, 233, 234, 235, 236, 237, 238, 239, 240, 241, 242, 243, 244, 245, 246] (by decide +kernel) (by decide +kernel)) (goodIn_sub (fun _ h => List.mem_cons_of_mem _ (List.mem_append_left _ (List.mem_append_right _ h))) (by decide +kernel))
set_option maxRecDepth 20000 in
theorem gX10_take_X10_requireAllowed : GoodIn wsX10_take (wsV RX10 355 RX10 yX10_requireAllowed wsX10_requireAllowed) := goodIn_app (goodIn_of _ (by decide +kernel)) ggX10_take_X10_requireAllowed
set_option maxRecDepth 20000 in
theorem ggX10_take_X10_takeInHand : GoodIn wsX10_take wsX10_takeInHand := goodIn_r _ [162, 163, 3, 4, 164, 165, 166, 167, 168, 169, 170, 171, 172, 173, 174, 175, 176, 177, 17, 178, 19, 179, 180, 181, 182, 183, 184, 185, 186, 187, 188, 189, 190, 191, 192, 193, 194, 195, 196, 197, 198, 199, 200, 201, 202, 203, 204, 205, 206, 207, 208, 209, 210, 211, 212, 213, 214, 215, 216, 217, 218, 219, 220, 221, 222, 247, 248] (by decide +kernel) (by decide +kernel)
set_option maxRecDepth 20000 in
theorem gX10_take_X10_takeInHand : GoodIn wsX10_take (wsV RX10 358 RX10 yX10_takeInHand wsX10_takeInHand) := goodIn_app (goodIn_of _ (by decide +kernel)) ggX10_take_X10_takeInHand
theorem dX10_take_0 : decode cX10_take 0 = .ok (.aload_n 0, 1) := by decide +kernel
theorem dX10_take_1 : decode cX10_take 1 = .ok (.iload_n 1, 1) := by decide +kernel
theorem dX10_take_2 : decode cX10_take 2 = .ok (.invokevirtual 173, 3) := by decide +kernel
theorem dX10_take_5 : decode cX10_take 5 = .ok (.aload_n 0, 1) := by decide +kernel
theorem dX10_take_6 : decode cX10_take 6 = .ok (.getfield 27, 3) := by decide +kernel
theorem dX10_take_9 : decode cX10_take 9 = .ok (.getfield 170, 3) := by decide +kernel
theorem dX10_take_12 : decode cX10_take 12 = .ok (.iload_n 1, 1) := by decide +kernel
theorem dX10_take_13 : decode cX10_take 13 = .ok (.invokestatic 347, 3) := by decide +kernel
theorem dX10_take_16 : decode cX10_take 16 = .ok (.ifCond .eq 14, 3) := by decide +kernel
theorem dX10_take_19 : decode cX10_take 19 = .ok (.new 98, 3) := by decide +kernel
theorem dX10_take_22 : decode cX10_take 22 = .ok (.dup, 1) := by decide +kernel
theorem dX10_take_23 : decode cX10_take 23 = .ok (.ldc_w 366, 3) := by decide +kernel
theorem dX10_take_26 : decode cX10_take 26 = .ok (.invokespecial 102, 3) := by decide +kernel
theorem dX10_take_29 : decode cX10_take 29 = .ok (.athrow, 1) := by decide +kernel
theorem dX10_take_30 : decode cX10_take 30 = .ok (.aload_n 0, 1) := by decide +kernel
theorem dX10_take_31 : decode cX10_take 31 = .ok (.getfield 27, 3) := by decide +kernel
theorem dX10_take_34 : decode cX10_take 34 = .ok (.getfield 170, 3) := by decide +kernel
theorem dX10_take_37 : decode cX10_take 37 = .ok (.iload_n 1, 1) := by decide +kernel
theorem dX10_take_38 : decode cX10_take 38 = .ok (.iconst 1, 1) := by decide +kernel
theorem dX10_take_39 : decode cX10_take 39 = .ok (.invokestatic 351, 3) := by decide +kernel
theorem dX10_take_42 : decode cX10_take 42 = .ok (.istore_n 2, 1) := by decide +kernel
theorem dX10_take_43 : decode cX10_take 43 = .ok (.aload_n 0, 1) := by decide +kernel
theorem dX10_take_44 : decode cX10_take 44 = .ok (.iload_n 2, 1) := by decide +kernel
theorem dX10_take_45 : decode cX10_take 45 = .ok (.invokevirtual 355, 3) := by decide +kernel
theorem dX10_take_48 : decode cX10_take 48 = .ok (.aload_n 0, 1) := by decide +kernel
theorem dX10_take_49 : decode cX10_take 49 = .ok (.iload_n 2, 1) := by decide +kernel
theorem dX10_take_50 : decode cX10_take 50 = .ok (.invokevirtual 358, 3) := by decide +kernel
theorem dX10_take_53 : decode cX10_take 53 = .ok (.aload_n 0, 1) := by decide +kernel
theorem dX10_take_54 : decode cX10_take 54 = .ok (.getfield 56, 3) := by decide +kernel
theorem dX10_take_57 : decode cX10_take 57 = .ok (.getfield 195, 3) := by decide +kernel
theorem dX10_take_60 : decode cX10_take 60 = .ok (.iload_n 2, 1) := by decide +kernel
theorem dX10_take_61 : decode cX10_take 61 = .ok (.iaload, 1) := by decide +kernel
theorem dX10_take_62 : decode cX10_take 62 = .ok (.ireturn, 1) := by decide +kernel
set_option maxRecDepth 20000 in
theorem ggX10_leave_X10_requireItem : GoodIn wsX10_leave wsX10_requireItem := goodIn_ca (goodIn_r _ [11, 12, 13, 3, 14, 15, 16, 17, 18, 19, 193, 194, 195, 196, 197, 198, 199, 200, 201, 202, 203, 204, 205, 206, 207, 208, 209, 210, 211, 212, 213, 214, 215, 216, 217, 218, 219, 220, 221, 222] (by decide +kernel) (by decide +kernel)) (goodIn_sub (fun _ h => List.mem_cons_of_mem _ (List.mem_append_right _ h)) (by decide +kernel))
set_option maxRecDepth 20000 in
theorem gX10_leave_X10_requireItem : GoodIn wsX10_leave (wsV RX10 173 RX10 yX10_requireItem wsX10_requireItem) := goodIn_app (goodIn_of _ (by decide +kernel)) ggX10_leave_X10_requireItem
set_option maxRecDepth 20000 in
theorem ggX10_leave_X10_hasBit : GoodIn wsX10_leave wsX10_hasBit := goodIn_r _ [22] (by decide +kernel) (by decide +kernel)
set_option maxRecDepth 20000 in
theorem gX10_leave_X10_hasBit : GoodIn wsX10_leave (va_wsS RX10 347 yX10_hasBit wsX10_hasBit) := goodIn_app (goodIn_of _ (by decide +kernel)) ggX10_leave_X10_hasBit
set_option maxRecDepth 20000 in
theorem ggX10_leave_X10_withBit : GoodIn wsX10_leave wsX10_withBit := goodIn_r _ [25] (by decide +kernel) (by decide +kernel)
set_option maxRecDepth 20000 in
theorem gX10_leave_X10_withBit : GoodIn wsX10_leave (va_wsS RX10 351 yX10_withBit wsX10_withBit) := goodIn_app (goodIn_of _ (by decide +kernel)) ggX10_leave_X10_withBit
set_option maxRecDepth 20000 in
theorem ggX10_leave_X10_requireAllowed : GoodIn wsX10_leave wsX10_requireAllowed := goodIn_ca (goodIn_r _ [29, 1, 2, 5, 3, 30, 31, 32, 33, 10, 34, 35, 36, 37, 38, 39, 40, 41, 42, 43, 44, 45, 46, 47, 48, 49, 50, 51, 52, 53, 54, 55, 56, 57, 58, 59, 60, 61, 62, 63, 64, 65, 66, 67, 68, 69, 70, 71, 72, 73, 74, 75, 76, 77, 78, 79, 80, 81, 82, 83, 84, 85, 86, 87, 88, 89, 90, 91, 92, 93, 94, 95, 96, 97, 98, 99, 100, 101, 102, 103, 104, 105, 106, 107, 108, 109, 110, 111, 112, 113, 114, 115, 116, 117, 118, 119, 120, 121, 122, 123, 124, 125, 126, 127, 128, 129, 130, 131, 132, 133, 134, 135, 136, 137, 138, 139, 140, 141, 142, 143, 144, 145, 146, 147, 148, 149, 150, 151, 152, 153, 154, 155, 156, 157, 158, 193, 194, 195, 196, 197, 198, 199, 200, 201, 202, 203, 204, 205, 206, 207, 208, 209, 210, 211, 212, 213, 214, 215, 216, 217, 218, 219, 220, 221, 222, 223, 224, 225, 226, 227, 228, 229, 230, 231, 232, 233, 234, 235, 236, 237, 238, 239, 240, 241, 242, 243, 244, 245, 246] (by decide +kernel) (by decide +kernel)) (goodIn_sub (fun _ h => List.mem_cons_of_mem _ (List.mem_append_left _ (List.mem_append_right _ h))) (by decide +kernel))
set_option maxRecDepth 20000 in
theorem gX10_leave_X10_requireAllowed : GoodIn wsX10_leave (wsV RX10 355 RX10 yX10_requireAllowed wsX10_requireAllowed) := goodIn_app (goodIn_of _ (by decide +kernel)) ggX10_leave_X10_requireAllowed
set_option maxRecDepth 20000 in
theorem ggX10_leave_X10_takeInHand : GoodIn wsX10_leave wsX10_takeInHand := goodIn_r _ [162, 163, 3, 4, 164, 165, 166, 167, 168, 169, 170, 171, 172, 173, 174, 175, 176, 177, 17, 178, 19, 179, 180, 181, 182, 183, 184, 185, 186, 187, 188, 189, 190, 191, 192, 193, 194, 195, 196, 197, 198, 199, 200, 201, 202, 203, 204, 205, 206, 207, 208, 209, 210, 211, 212, 213, 214, 215, 216, 217, 218, 219, 220, 221, 222, 247, 248] (by decide +kernel) (by decide +kernel)
set_option maxRecDepth 20000 in
theorem gX10_leave_X10_takeInHand : GoodIn wsX10_leave (wsV RX10 358 RX10 yX10_takeInHand wsX10_takeInHand) := goodIn_app (goodIn_of _ (by decide +kernel)) ggX10_leave_X10_takeInHand
theorem dX10_leave_0 : decode cX10_leave 0 = .ok (.aload_n 0, 1) := by decide +kernel
theorem dX10_leave_1 : decode cX10_leave 1 = .ok (.iload_n 1, 1) := by decide +kernel
theorem dX10_leave_2 : decode cX10_leave 2 = .ok (.invokevirtual 173, 3) := by decide +kernel
theorem dX10_leave_5 : decode cX10_leave 5 = .ok (.aload_n 0, 1) := by decide +kernel
theorem dX10_leave_6 : decode cX10_leave 6 = .ok (.getfield 27, 3) := by decide +kernel
theorem dX10_leave_9 : decode cX10_leave 9 = .ok (.getfield 170, 3) := by decide +kernel
theorem dX10_leave_12 : decode cX10_leave 12 = .ok (.iload_n 1, 1) := by decide +kernel
theorem dX10_leave_13 : decode cX10_leave 13 = .ok (.invokestatic 347, 3) := by decide +kernel
theorem dX10_leave_16 : decode cX10_leave 16 = .ok (.ifCond .ne 14, 3) := by decide +kernel
theorem dX10_leave_19 : decode cX10_leave 19 = .ok (.new 98, 3) := by decide +kernel
theorem dX10_leave_22 : decode cX10_leave 22 = .ok (.dup, 1) := by decide +kernel
theorem dX10_leave_23 : decode cX10_leave 23 = .ok (.ldc_w 368, 3) := by decide +kernel
theorem dX10_leave_26 : decode cX10_leave 26 = .ok (.invokespecial 102, 3) := by decide +kernel
theorem dX10_leave_29 : decode cX10_leave 29 = .ok (.athrow, 1) := by decide +kernel
theorem dX10_leave_30 : decode cX10_leave 30 = .ok (.aload_n 0, 1) := by decide +kernel
theorem dX10_leave_31 : decode cX10_leave 31 = .ok (.getfield 27, 3) := by decide +kernel
theorem dX10_leave_34 : decode cX10_leave 34 = .ok (.getfield 170, 3) := by decide +kernel
theorem dX10_leave_37 : decode cX10_leave 37 = .ok (.iload_n 1, 1) := by decide +kernel
theorem dX10_leave_38 : decode cX10_leave 38 = .ok (.iconst 0, 1) := by decide +kernel
theorem dX10_leave_39 : decode cX10_leave 39 = .ok (.invokestatic 351, 3) := by decide +kernel
theorem dX10_leave_42 : decode cX10_leave 42 = .ok (.istore_n 2, 1) := by decide +kernel
theorem dX10_leave_43 : decode cX10_leave 43 = .ok (.aload_n 0, 1) := by decide +kernel
theorem dX10_leave_44 : decode cX10_leave 44 = .ok (.iload_n 2, 1) := by decide +kernel
theorem dX10_leave_45 : decode cX10_leave 45 = .ok (.invokevirtual 355, 3) := by decide +kernel
theorem dX10_leave_48 : decode cX10_leave 48 = .ok (.aload_n 0, 1) := by decide +kernel
theorem dX10_leave_49 : decode cX10_leave 49 = .ok (.iload_n 2, 1) := by decide +kernel
theorem dX10_leave_50 : decode cX10_leave 50 = .ok (.invokevirtual 358, 3) := by decide +kernel
theorem dX10_leave_53 : decode cX10_leave 53 = .ok (.aload_n 0, 1) := by decide +kernel
theorem dX10_leave_54 : decode cX10_leave 54 = .ok (.getfield 56, 3) := by decide +kernel
theorem dX10_leave_57 : decode cX10_leave 57 = .ok (.getfield 195, 3) := by decide +kernel
theorem dX10_leave_60 : decode cX10_leave 60 = .ok (.iload_n 2, 1) := by decide +kernel
theorem dX10_leave_61 : decode cX10_leave 61 = .ok (.iaload, 1) := by decide +kernel
theorem dX10_leave_62 : decode cX10_leave 62 = .ok (.ireturn, 1) := by decide +kernel
set_option maxRecDepth 20000 in
theorem ggX10_takeInHand_X6_push : GoodIn wsX10_takeInHand wsX6_push := goodIn_r _ [8, 9, 10, 11, 12, 13, 7, 14, 15, 16, 17, 18, 19, 20, 21, 22, 23, 24, 25, 26, 27, 28, 29, 30, 31, 32, 33, 34, 65, 66, 54, 55, 56, 57, 58, 59, 60, 61, 62, 63, 64] (by decide +kernel) (by decide +kernel)
set_option maxRecDepth 20000 in
theorem gX10_takeInHand_X6_push : GoodIn wsX10_takeInHand (wsV RX10 127 RX6 yX6_push wsX6_push) := goodIn_app (goodIn_of _ (by decide +kernel)) ggX10_takeInHand_X6_push
theorem dX10_takeInHand_0 : decode cX10_takeInHand 0 = .ok (.aload_n 0, 1) := by decide +kernel
theorem dX10_takeInHand_1 : decode cX10_takeInHand 1 = .ok (.getfield 34, 3) := by decide +kernel
theorem dX10_takeInHand_4 : decode cX10_takeInHand 4 = .ok (.aload_n 0, 1) := by decide +kernel
theorem dX10_takeInHand_5 : decode cX10_takeInHand 5 = .ok (.getfield 27, 3) := by decide +kernel
theorem dX10_takeInHand_8 : decode cX10_takeInHand 8 = .ok (.invokevirtual 127, 3) := by decide +kernel
theorem dX10_takeInHand_11 : decode cX10_takeInHand 11 = .ok (.aload_n 0, 1) := by decide +kernel
theorem dX10_takeInHand_12 : decode cX10_takeInHand 12 = .ok (.getfield 27, 3) := by decide +kernel
theorem dX10_takeInHand_15 : decode cX10_takeInHand 15 = .ok (.iload_n 1, 1) := by decide +kernel
theorem dX10_takeInHand_16 : decode cX10_takeInHand 16 = .ok (.putfield 170, 3) := by decide +kernel
theorem dX10_takeInHand_19 : decode cX10_takeInHand 19 = .ok (.return_, 1) := by decide +kernel
set_option maxRecDepth 20000 in
theorem ggX10_keep_X10_requireSlot : GoodIn wsX10_keep wsX10_requireSlot := goodIn_ca (goodIn_r _ [8, 9, 10] (by decide +kernel) (by decide +kernel)) (goodIn_sub (fun _ h => List.mem_cons_of_mem _ (List.mem_append_right _ h)) (by decide +kernel))
set_option maxRecDepth 20000 in
theorem gX10_keep_X10_requireSlot : GoodIn wsX10_keep (va_wsS RX10 370 yX10_requireSlot wsX10_requireSlot) := goodIn_app (goodIn_of _ (by decide +kernel)) ggX10_keep_X10_requireSlot
set_option maxRecDepth 20000 in
theorem ggX10_keep_X8_copyFrom : GoodIn wsX10_keep wsX8_copyFrom := goodIn_r _ [15, 16, 17, 18, 19, 20, 21, 22, 23, 24, 25, 26, 27, 28, 29, 30, 50, 51, 52, 53, 54, 55, 56, 57, 58, 59, 60] (by decide +kernel) (by decide +kernel)
set_option maxRecDepth 20000 in
theorem gX10_keep_X8_copyFrom : GoodIn wsX10_keep (wsV RX10 134 RX8 yX8_copyFrom wsX8_copyFrom) := goodIn_app (goodIn_of _ (by decide +kernel)) ggX10_keep_X8_copyFrom
theorem dX10_keep_0 : decode cX10_keep 0 = .ok (.iload_n 1, 1) := by decide +kernel
theorem dX10_keep_1 : decode cX10_keep 1 = .ok (.invokestatic 370, 3) := by decide +kernel
theorem dX10_keep_4 : decode cX10_keep 4 = .ok (.aload_n 0, 1) := by decide +kernel
theorem dX10_keep_5 : decode cX10_keep 5 = .ok (.getfield 38, 3) := by decide +kernel
theorem dX10_keep_8 : decode cX10_keep 8 = .ok (.iload_n 1, 1) := by decide +kernel
theorem dX10_keep_9 : decode cX10_keep 9 = .ok (.aaload, 1) := by decide +kernel
theorem dX10_keep_10 : decode cX10_keep 10 = .ok (.aload_n 0, 1) := by decide +kernel
theorem dX10_keep_11 : decode cX10_keep 11 = .ok (.getfield 27, 3) := by decide +kernel
theorem dX10_keep_14 : decode cX10_keep 14 = .ok (.invokevirtual 134, 3) := by decide +kernel
theorem dX10_keep_17 : decode cX10_keep 17 = .ok (.aload_n 0, 1) := by decide +kernel
theorem dX10_keep_18 : decode cX10_keep 18 = .ok (.getfield 42, 3) := by decide +kernel
theorem dX10_keep_21 : decode cX10_keep 21 = .ok (.iload_n 1, 1) := by decide +kernel
theorem dX10_keep_22 : decode cX10_keep 22 = .ok (.iconst 1, 1) := by decide +kernel
theorem dX10_keep_23 : decode cX10_keep 23 = .ok (.bastore, 1) := by decide +kernel
theorem dX10_keep_24 : decode cX10_keep 24 = .ok (.aload_n 0, 1) := by decide +kernel
theorem dX10_keep_25 : decode cX10_keep 25 = .ok (.getfield 27, 3) := by decide +kernel
theorem dX10_keep_28 : decode cX10_keep 28 = .ok (.getfield 140, 3) := by decide +kernel
theorem dX10_keep_31 : decode cX10_keep 31 = .ok (.ireturn, 1) := by decide +kernel
set_option maxRecDepth 20000 in
theorem ggX10_restore_X10_requireSlot : GoodIn wsX10_restore wsX10_requireSlot := goodIn_ca (goodIn_r _ [11, 12, 13] (by decide +kernel) (by decide +kernel)) (goodIn_sub (fun _ h => List.mem_cons_of_mem _ (List.mem_append_right _ h)) (by decide +kernel))
set_option maxRecDepth 20000 in
theorem gX10_restore_X10_requireSlot : GoodIn wsX10_restore (va_wsS RX10 370 yX10_requireSlot wsX10_requireSlot) := goodIn_app (goodIn_of _ (by decide +kernel)) ggX10_restore_X10_requireSlot
set_option maxRecDepth 20000 in
theorem ggX10_restore_X6_push : GoodIn wsX10_restore wsX6_push := goodIn_r _ [18, 19, 20, 21, 22, 23, 17, 24, 25, 26, 27, 28, 29, 30, 31, 32, 33, 34, 35, 36, 37, 38, 39, 40, 41, 42, 43, 44, 83, 84, 72, 73, 74, 75, 76, 77, 78, 79, 80, 81, 82] (by decide +kernel) (by decide +kernel)
set_option maxRecDepth 20000 in
theorem gX10_restore_X6_push : GoodIn wsX10_restore (wsV RX10 127 RX6 yX6_push wsX6_push) := goodIn_app (goodIn_of _ (by decide +kernel)) ggX10_restore_X6_push
set_option maxRecDepth 20000 in
theorem ggX10_restore_X8_copyFrom : GoodIn wsX10_restore wsX8_copyFrom := goodIn_r _ [29, 30, 31, 32, 33, 34, 35, 36, 37, 38, 39, 40, 41, 42, 43, 44, 72, 73, 74, 75, 76, 77, 78, 79, 80, 81, 82] (by decide +kernel) (by decide +kernel)
set_option maxRecDepth 20000 in
theorem gX10_restore_X8_copyFrom : GoodIn wsX10_restore (wsV RX10 134 RX8 yX8_copyFrom wsX8_copyFrom) := goodIn_app (goodIn_of _ (by decide +kernel)) ggX10_restore_X8_copyFrom
set_option maxRecDepth 20000 in
theorem ggX10_restore_X10_markChanged : GoodIn wsX10_restore wsX10_markChanged := goodIn_r _ [49, 50, 51, 52, 53, 54, 55, 56, 57, 58, 59, 60, 61, 62, 63, 64, 65, 66, 67, 68, 69, 70, 71] (by decide +kernel) (by decide +kernel)
set_option maxRecDepth 20000 in
theorem gX10_restore_X10_markChanged : GoodIn wsX10_restore (wsV RX10 137 RX10 yX10_markChanged wsX10_markChanged) := goodIn_app (goodIn_of _ (by decide +kernel)) ggX10_restore_X10_markChanged
theorem dX10_restore_0 : decode cX10_restore 0 = .ok (.iload_n 1, 1) := by decide +kernel
theorem dX10_restore_1 : decode cX10_restore 1 = .ok (.invokestatic 370, 3) := by decide +kernel
theorem dX10_restore_4 : decode cX10_restore 4 = .ok (.aload_n 0, 1) := by decide +kernel
theorem dX10_restore_5 : decode cX10_restore 5 = .ok (.getfield 42, 3) := by decide +kernel
theorem dX10_restore_8 : decode cX10_restore 8 = .ok (.iload_n 1, 1) := by decide +kernel
theorem dX10_restore_9 : decode cX10_restore 9 = .ok (.baload, 1) := by decide +kernel
theorem dX10_restore_10 : decode cX10_restore 10 = .ok (.ifCond .ne 14, 3) := by decide +kernel
theorem dX10_restore_13 : decode cX10_restore 13 = .ok (.new 98, 3) := by decide +kernel
theorem dX10_restore_16 : decode cX10_restore 16 = .ok (.dup, 1) := by decide +kernel
theorem dX10_restore_17 : decode cX10_restore 17 = .ok (.ldc_w 373, 3) := by decide +kernel
theorem dX10_restore_20 : decode cX10_restore 20 = .ok (.invokespecial 102, 3) := by decide +kernel
theorem dX10_restore_23 : decode cX10_restore 23 = .ok (.athrow, 1) := by decide +kernel
theorem dX10_restore_24 : decode cX10_restore 24 = .ok (.aload_n 0, 1) := by decide +kernel
theorem dX10_restore_25 : decode cX10_restore 25 = .ok (.getfield 34, 3) := by decide +kernel
theorem dX10_restore_28 : decode cX10_restore 28 = .ok (.aload_n 0, 1) := by decide +kernel
theorem dX10_restore_29 : decode cX10_restore 29 = .ok (.getfield 27, 3) := by decide +kernel
theorem dX10_restore_32 : decode cX10_restore 32 = .ok (.invokevirtual 127, 3) := by decide +kernel
theorem dX10_restore_35 : decode cX10_restore 35 = .ok (.aload_n 0, 1) := by decide +kernel
theorem dX10_restore_36 : decode cX10_restore 36 = .ok (.getfield 27, 3) := by decide +kernel
theorem dX10_restore_39 : decode cX10_restore 39 = .ok (.aload_n 0, 1) := by decide +kernel
theorem dX10_restore_40 : decode cX10_restore 40 = .ok (.getfield 38, 3) := by decide +kernel
theorem dX10_restore_43 : decode cX10_restore 43 = .ok (.iload_n 1, 1) := by decide +kernel
theorem dX10_restore_44 : decode cX10_restore 44 = .ok (.aaload, 1) := by decide +kernel
theorem dX10_restore_45 : decode cX10_restore 45 = .ok (.invokevirtual 134, 3) := by decide +kernel
theorem dX10_restore_48 : decode cX10_restore 48 = .ok (.aload_n 0, 1) := by decide +kernel
theorem dX10_restore_49 : decode cX10_restore 49 = .ok (.invokevirtual 137, 3) := by decide +kernel
theorem dX10_restore_52 : decode cX10_restore 52 = .ok (.aload_n 0, 1) := by decide +kernel
theorem dX10_restore_53 : decode cX10_restore 53 = .ok (.getfield 27, 3) := by decide +kernel
theorem dX10_restore_56 : decode cX10_restore 56 = .ok (.getfield 140, 3) := by decide +kernel
theorem dX10_restore_59 : decode cX10_restore 59 = .ok (.ireturn, 1) := by decide +kernel
set_option maxRecDepth 20000 in
theorem ggX10_undo_X6_pop : GoodIn wsX10_undo wsX6_pop := goodIn_r _ [10, 11, 12, 13, 14, 15, 16, 17, 18, 19, 20, 21, 22, 23, 24, 25, 26, 27, 28, 29, 30, 31, 32, 60, 61, 62, 63, 64, 65, 66, 67, 68, 69, 70, 71, 72] (by decide +kernel) (by decide +kernel)
set_option maxRecDepth 20000 in
theorem gX10_undo_X6_pop : GoodIn wsX10_undo (wsV RX10 378 RX6 yX6_pop wsX6_pop) := goodIn_app (goodIn_of _ (by decide +kernel)) ggX10_undo_X6_pop
set_option maxRecDepth 20000 in
theorem ggX10_undo_X10_markChanged : GoodIn wsX10_undo wsX10_markChanged := goodIn_r _ [37, 38, 39, 40, 41, 42, 43, 44, 45, 46, 47, 48, 49, 50, 51, 52, 53, 54, 55, 56, 57, 58, 59] (by decide +kernel) (by decide +kernel)
set_option maxRecDepth 20000 in
theorem gX10_undo_X10_markChanged : GoodIn wsX10_undo (wsV RX10 137 RX10 yX10_markChanged wsX10_markChanged) := goodIn_app (goodIn_of _ (by decide +kernel)) ggX10_undo_X10_markChanged
theorem dX10_undo_0 : decode cX10_undo 0 = .ok (.aload_n 0, 1) := by decide +kernel
theorem dX10_undo_1 : decode cX10_undo 1 = .ok (.getfield 34, 3) := by decide +kernel
theorem dX10_undo_4 : decode cX10_undo 4 = .ok (.getfield 375, 3) := by decide +kernel
theorem dX10_undo_7 : decode cX10_undo 7 = .ok (.ifCond .gt 14, 3) := by decide +kernel
theorem dX10_undo_10 : decode cX10_undo 10 = .ok (.new 98, 3) := by decide +kernel
theorem dX10_undo_13 : decode cX10_undo 13 = .ok (.dup, 1) := by decide +kernel
theorem dX10_undo_14 : decode cX10_undo 14 = .ok (.ldc_w 376, 3) := by decide +kernel
theorem dX10_undo_17 : decode cX10_undo 17 = .ok (.invokespecial 102, 3) := by decide +kernel
theorem dX10_undo_20 : decode cX10_undo 20 = .ok (.athrow, 1) := by decide +kernel
theorem dX10_undo_21 : decode cX10_undo 21 = .ok (.aload_n 0, 1) := by decide +kernel
theorem dX10_undo_22 : decode cX10_undo 22 = .ok (.getfield 34, 3) := by decide +kernel
theorem dX10_undo_25 : decode cX10_undo 25 = .ok (.aload_n 0, 1) := by decide +kernel
theorem dX10_undo_26 : decode cX10_undo 26 = .ok (.getfield 27, 3) := by decide +kernel
theorem dX10_undo_29 : decode cX10_undo 29 = .ok (.invokevirtual 378, 3) := by decide +kernel
theorem dX10_undo_32 : decode cX10_undo 32 = .ok (.aload_n 0, 1) := by decide +kernel
theorem dX10_undo_33 : decode cX10_undo 33 = .ok (.invokevirtual 137, 3) := by decide +kernel
theorem dX10_undo_36 : decode cX10_undo 36 = .ok (.aload_n 0, 1) := by decide +kernel
theorem dX10_undo_37 : decode cX10_undo 37 = .ok (.getfield 34, 3) := by decide +kernel
theorem dX10_undo_40 : decode cX10_undo 40 = .ok (.getfield 375, 3) := by decide +kernel
theorem dX10_undo_43 : decode cX10_undo 43 = .ok (.ireturn, 1) := by decide +kernel
theorem dX10_undoCount_0 : decode cX10_undoCount 0 = .ok (.aload_n 0, 1) := by decide +kernel
theorem dX10_undoCount_1 : decode cX10_undoCount 1 = .ok (.getfield 34, 3) := by decide +kernel
theorem dX10_undoCount_4 : decode cX10_undoCount 4 = .ok (.getfield 375, 3) := by decide +kernel
theorem dX10_undoCount_7 : decode cX10_undoCount 7 = .ok (.ireturn, 1) := by decide +kernel
set_option maxRecDepth 20000 in
theorem ggX10_writeFrontier_X10_refreshFrontier : GoodIn wsX10_writeFrontier wsX10_refreshFrontier := goodIn_r _ [12, 13, 14, 15, 16, 17, 3, 18, 19, 20, 21, 22, 23, 24, 25, 26, 27, 28, 29, 30, 31, 32, 33, 34, 35, 36, 37, 38, 39, 40, 41, 42, 43, 44, 45, 46, 47, 48, 49, 50, 51, 52, 53, 54, 55, 56, 57, 58, 59, 60, 61, 62, 63, 64, 65, 66, 67, 68, 69, 70, 71, 72, 73, 74, 75, 76, 77, 78, 79, 80, 81, 82, 83, 84, 85, 86, 87, 88, 89, 90, 91, 92, 93, 94, 95, 96, 97, 98, 99, 100, 101, 102, 103, 104, 105, 106, 107, 108, 109, 110, 111, 112, 113, 114, 115, 116, 117, 118, 119, 120, 121, 122, 123, 124, 125, 126, 127, 128, 129, 130, 131, 132, 133, 134, 135, 136, 137, 150, 151, 152, 153, 154, 155, 156, 157, 158, 159, 160, 161, 162, 163, 164, 165, 166, 167, 168, 184, 185, 186, 187, 188, 189, 190, 191, 192, 193, 194, 195, 196, 197, 198, 199, 200, 201, 202, 203, 204, 205, 171, 172, 173, 174, 175, 176, 177, 178, 179, 180, 181, 182, 183] (by decide +kernel) (by decide +kernel)
set_option maxRecDepth 20000 in
theorem gX10_writeFrontier_X10_refreshFrontier : GoodIn wsX10_writeFrontier (wsV RX10 188 RX10 yX10_refreshFrontier wsX10_refreshFrontier) := goodIn_app (goodIn_of _ (by decide +kernel)) ggX10_writeFrontier_X10_refreshFrontier
set_option maxRecDepth 20000 in
theorem ggX10_writeFrontier_X4_put : GoodIn wsX10_writeFrontier wsX4_put := goodIn_r _ [142, 143, 144, 169, 170] (by decide +kernel) (by decide +kernel)
set_option maxRecDepth 20000 in
theorem gX10_writeFrontier_X4_put : GoodIn wsX10_writeFrontier (wsV RX10 384 RX4 yX4_put wsX4_put) := goodIn_app (goodIn_of _ (by decide +kernel)) ggX10_writeFrontier_X4_put
set_option maxRecDepth 20000 in
theorem ggX10_writeFrontier_X4_putNumber : GoodIn wsX10_writeFrontier wsX4_putNumber := goodIn_r _ [148, 149, 139, 140, 141, 142, 143, 144, 169, 170] (by decide +kernel) (by decide +kernel)
set_option maxRecDepth 20000 in
theorem gX10_writeFrontier_X4_putNumber : GoodIn wsX10_writeFrontier (wsV RX10 387 RX4 yX4_putNumber wsX4_putNumber) := goodIn_app (goodIn_of _ (by decide +kernel)) ggX10_writeFrontier_X4_putNumber
theorem dX10_writeFrontier_0 : decode cX10_writeFrontier 0 = .ok (.aload_n 0, 1) := by decide +kernel
theorem dX10_writeFrontier_1 : decode cX10_writeFrontier 1 = .ok (.invokevirtual 188, 3) := by decide +kernel
theorem dX10_writeFrontier_4 : decode cX10_writeFrontier 4 = .ok (.aload_n 0, 1) := by decide +kernel
theorem dX10_writeFrontier_5 : decode cX10_writeFrontier 5 = .ok (.getfield 49, 3) := by decide +kernel
theorem dX10_writeFrontier_8 : decode cX10_writeFrontier 8 = .ok (.iconst 0, 1) := by decide +kernel
theorem dX10_writeFrontier_9 : decode cX10_writeFrontier 9 = .ok (.putfield 381, 3) := by decide +kernel
theorem dX10_writeFrontier_12 : decode cX10_writeFrontier 12 = .ok (.iconst 0, 1) := by decide +kernel
theorem dX10_writeFrontier_13 : decode cX10_writeFrontier 13 = .ok (.istore_n 1, 1) := by decide +kernel
theorem dX10_writeFrontier_14 : decode cX10_writeFrontier 14 = .ok (.iload_n 1, 1) := by decide +kernel
theorem dX10_writeFrontier_15 : decode cX10_writeFrontier 15 = .ok (.aload_n 0, 1) := by decide +kernel
theorem dX10_writeFrontier_16 : decode cX10_writeFrontier 16 = .ok (.getfield 70, 3) := by decide +kernel
theorem dX10_writeFrontier_19 : decode cX10_writeFrontier 19 = .ok (.getfield 201, 3) := by decide +kernel
theorem dX10_writeFrontier_22 : decode cX10_writeFrontier 22 = .ok (.if_icmp .ge 108, 3) := by decide +kernel
theorem dX10_writeFrontier_25 : decode cX10_writeFrontier 25 = .ok (.iload_n 1, 1) := by decide +kernel
theorem dX10_writeFrontier_26 : decode cX10_writeFrontier 26 = .ok (.ifCond .le 12, 3) := by decide +kernel
theorem dX10_writeFrontier_29 : decode cX10_writeFrontier 29 = .ok (.aload_n 0, 1) := by decide +kernel
theorem dX10_writeFrontier_30 : decode cX10_writeFrontier 30 = .ok (.getfield 49, 3) := by decide +kernel
theorem dX10_writeFrontier_33 : decode cX10_writeFrontier 33 = .ok (.bipush 32, 2) := by decide +kernel
theorem dX10_writeFrontier_35 : decode cX10_writeFrontier 35 = .ok (.invokevirtual 384, 3) := by decide +kernel
theorem dX10_writeFrontier_38 : decode cX10_writeFrontier 38 = .ok (.aload_n 0, 1) := by decide +kernel
theorem dX10_writeFrontier_39 : decode cX10_writeFrontier 39 = .ok (.getfield 49, 3) := by decide +kernel
theorem dX10_writeFrontier_42 : decode cX10_writeFrontier 42 = .ok (.aload_n 0, 1) := by decide +kernel
theorem dX10_writeFrontier_43 : decode cX10_writeFrontier 43 = .ok (.getfield 70, 3) := by decide +kernel
theorem dX10_writeFrontier_46 : decode cX10_writeFrontier 46 = .ok (.getfield 207, 3) := by decide +kernel
theorem dX10_writeFrontier_49 : decode cX10_writeFrontier 49 = .ok (.iload_n 1, 1) := by decide +kernel
theorem dX10_writeFrontier_50 : decode cX10_writeFrontier 50 = .ok (.iaload, 1) := by decide +kernel
theorem dX10_writeFrontier_51 : decode cX10_writeFrontier 51 = .ok (.invokevirtual 387, 3) := by decide +kernel
theorem dX10_writeFrontier_54 : decode cX10_writeFrontier 54 = .ok (.aload_n 0, 1) := by decide +kernel
theorem dX10_writeFrontier_55 : decode cX10_writeFrontier 55 = .ok (.getfield 49, 3) := by decide +kernel
theorem dX10_writeFrontier_58 : decode cX10_writeFrontier 58 = .ok (.bipush 44, 2) := by decide +kernel
theorem dX10_writeFrontier_60 : decode cX10_writeFrontier 60 = .ok (.invokevirtual 384, 3) := by decide +kernel
theorem dX10_writeFrontier_63 : decode cX10_writeFrontier 63 = .ok (.aload_n 0, 1) := by decide +kernel
theorem dX10_writeFrontier_64 : decode cX10_writeFrontier 64 = .ok (.getfield 49, 3) := by decide +kernel
theorem dX10_writeFrontier_67 : decode cX10_writeFrontier 67 = .ok (.aload_n 0, 1) := by decide +kernel
theorem dX10_writeFrontier_68 : decode cX10_writeFrontier 68 = .ok (.getfield 70, 3) := by decide +kernel
theorem dX10_writeFrontier_71 : decode cX10_writeFrontier 71 = .ok (.getfield 208, 3) := by decide +kernel
theorem dX10_writeFrontier_74 : decode cX10_writeFrontier 74 = .ok (.iload_n 1, 1) := by decide +kernel
theorem dX10_writeFrontier_75 : decode cX10_writeFrontier 75 = .ok (.iaload, 1) := by decide +kernel
theorem dX10_writeFrontier_76 : decode cX10_writeFrontier 76 = .ok (.invokevirtual 387, 3) := by decide +kernel
theorem dX10_writeFrontier_79 : decode cX10_writeFrontier 79 = .ok (.aload_n 0, 1) := by decide +kernel
theorem dX10_writeFrontier_80 : decode cX10_writeFrontier 80 = .ok (.getfield 49, 3) := by decide +kernel
theorem dX10_writeFrontier_83 : decode cX10_writeFrontier 83 = .ok (.aload_n 0, 1) := by decide +kernel
theorem dX10_writeFrontier_84 : decode cX10_writeFrontier 84 = .ok (.getfield 70, 3) := by decide +kernel
theorem dX10_writeFrontier_87 : decode cX10_writeFrontier 87 = .ok (.getfield 215, 3) := by decide +kernel
theorem dX10_writeFrontier_90 : decode cX10_writeFrontier 90 = .ok (.iload_n 1, 1) := by decide +kernel
theorem dX10_writeFrontier_91 : decode cX10_writeFrontier 91 = .ok (.iaload, 1) := by decide +kernel
theorem dX10_writeFrontier_92 : decode cX10_writeFrontier 92 = .ok (.iconst 2, 1) := by decide +kernel
theorem dX10_writeFrontier_93 : decode cX10_writeFrontier 93 = .ok (.if_icmp .ne 8, 3) := by decide +kernel
theorem dX10_writeFrontier_96 : decode cX10_writeFrontier 96 = .ok (.bipush 33, 2) := by decide +kernel
theorem dX10_writeFrontier_98 : decode cX10_writeFrontier 98 = .ok (.goto 23, 3) := by decide +kernel
theorem dX10_writeFrontier_101 : decode cX10_writeFrontier 101 = .ok (.aload_n 0, 1) := by decide +kernel
theorem dX10_writeFrontier_102 : decode cX10_writeFrontier 102 = .ok (.getfield 70, 3) := by decide +kernel
theorem dX10_writeFrontier_105 : decode cX10_writeFrontier 105 = .ok (.getfield 215, 3) := by decide +kernel
theorem dX10_writeFrontier_108 : decode cX10_writeFrontier 108 = .ok (.iload_n 1, 1) := by decide +kernel
theorem dX10_writeFrontier_109 : decode cX10_writeFrontier 109 = .ok (.iaload, 1) := by decide +kernel
theorem dX10_writeFrontier_110 : decode cX10_writeFrontier 110 = .ok (.iconst 1, 1) := by decide +kernel
theorem dX10_writeFrontier_111 : decode cX10_writeFrontier 111 = .ok (.if_icmp .ne 8, 3) := by decide +kernel
theorem dX10_writeFrontier_114 : decode cX10_writeFrontier 114 = .ok (.bipush 43, 2) := by decide +kernel
theorem dX10_writeFrontier_116 : decode cX10_writeFrontier 116 = .ok (.goto 5, 3) := by decide +kernel
theorem dX10_writeFrontier_119 : decode cX10_writeFrontier 119 = .ok (.bipush 46, 2) := by decide +kernel
theorem dX10_writeFrontier_121 : decode cX10_writeFrontier 121 = .ok (.invokevirtual 384, 3) := by decide +kernel
theorem dX10_writeFrontier_124 : decode cX10_writeFrontier 124 = .ok (.iinc 1 1, 3) := by decide +kernel
theorem dX10_writeFrontier_127 : decode cX10_writeFrontier 127 = .ok (.goto (-113), 3) := by decide +kernel
theorem dX10_writeFrontier_130 : decode cX10_writeFrontier 130 = .ok (.aload_n 0, 1) := by decide +kernel
theorem dX10_writeFrontier_131 : decode cX10_writeFrontier 131 = .ok (.getfield 49, 3) := by decide +kernel
theorem dX10_writeFrontier_134 : decode cX10_writeFrontier 134 = .ok (.getfield 381, 3) := by decide +kernel
theorem dX10_writeFrontier_137 : decode cX10_writeFrontier 137 = .ok (.ireturn, 1) := by decide +kernel
set_option maxRecDepth 20000 in
theorem ggX10_writeChoices_X10_refreshFrontier : GoodIn wsX10_writeChoices wsX10_refreshFrontier := goodIn_r _ [12, 13, 14, 5, 15, 16, 3, 17, 18, 19, 20, 21, 22, 23, 24, 25, 26, 27, 28, 29, 30, 31, 32, 33, 34, 35, 36, 37, 38, 39, 40, 41, 42, 43, 44, 45, 46, 47, 48, 49, 50, 51, 52, 53, 54, 55, 56, 57, 58, 59, 60, 61, 62, 63, 64, 65, 66, 67, 68, 69, 70, 71, 72, 73, 74, 75, 76, 77, 78, 79, 80, 81, 82, 83, 84, 85, 86, 87, 88, 89, 90, 91, 92, 93, 94, 95, 96, 97, 98, 99, 100, 101, 102, 103, 104, 105, 106, 107, 108, 109, 110, 111, 112, 113, 114, 115, 116, 117, 118, 119, 120, 121, 122, 123, 124, 125, 126, 127, 128, 129, 130, 131, 132, 133, 134, 135, 136, 147, 148, 149, 150, 151, 152, 153, 154, 155, 156, 157, 158, 159, 160, 161, 162, 163, 164, 165, 181, 182, 183, 184, 185, 186, 187, 188, 189, 190, 191, 192, 193, 194, 195, 196, 197, 198, 199, 200, 201, 202, 168, 169, 170, 171, 172, 173, 174, 175, 176, 177, 178, 179, 180] (by decide +kernel) (by decide +kernel)
set_option maxRecDepth 20000 in
theorem gX10_writeChoices_X10_refreshFrontier : GoodIn wsX10_writeChoices (wsV RX10 188 RX10 yX10_refreshFrontier wsX10_refreshFrontier) := goodIn_app (goodIn_of _ (by decide +kernel)) ggX10_writeChoices_X10_refreshFrontier
set_option maxRecDepth 20000 in
theorem ggX10_writeChoices_X10_hasBit : GoodIn wsX10_writeChoices wsX10_hasBit := goodIn_r _ [139] (by decide +kernel) (by decide +kernel)
set_option maxRecDepth 20000 in
theorem gX10_writeChoices_X10_hasBit : GoodIn wsX10_writeChoices (va_wsS RX10 347 yX10_hasBit wsX10_hasBit) := goodIn_app (goodIn_of _ (by decide +kernel)) ggX10_writeChoices_X10_hasBit
set_option maxRecDepth 20000 in
theorem ggX10_writeChoices_X4_put : GoodIn wsX10_writeChoices wsX4_put := goodIn_r _ [144, 145, 146, 166, 167] (by decide +kernel) (by decide +kernel)
set_option maxRecDepth 20000 in
theorem gX10_writeChoices_X4_put : GoodIn wsX10_writeChoices (wsV RX10 384 RX4 yX4_put wsX4_put) := goodIn_app (goodIn_of _ (by decide +kernel)) ggX10_writeChoices_X4_put
theorem dX10_writeChoices_0 : decode cX10_writeChoices 0 = .ok (.aload_n 0, 1) := by decide +kernel
theorem dX10_writeChoices_1 : decode cX10_writeChoices 1 = .ok (.invokevirtual 188, 3) := by decide +kernel
theorem dX10_writeChoices_4 : decode cX10_writeChoices 4 = .ok (.aload_n 0, 1) := by decide +kernel
theorem dX10_writeChoices_5 : decode cX10_writeChoices 5 = .ok (.getfield 49, 3) := by decide +kernel
theorem dX10_writeChoices_8 : decode cX10_writeChoices 8 = .ok (.iconst 0, 1) := by decide +kernel
theorem dX10_writeChoices_9 : decode cX10_writeChoices 9 = .ok (.putfield 381, 3) := by decide +kernel
theorem dX10_writeChoices_12 : decode cX10_writeChoices 12 = .ok (.iconst 0, 1) := by decide +kernel
theorem dX10_writeChoices_13 : decode cX10_writeChoices 13 = .ok (.istore_n 1, 1) := by decide +kernel
theorem dX10_writeChoices_14 : decode cX10_writeChoices 14 = .ok (.iload_n 1, 1) := by decide +kernel
theorem dX10_writeChoices_15 : decode cX10_writeChoices 15 = .ok (.aload_n 0, 1) := by decide +kernel
theorem dX10_writeChoices_16 : decode cX10_writeChoices 16 = .ok (.getfield 70, 3) := by decide +kernel
theorem dX10_writeChoices_19 : decode cX10_writeChoices 19 = .ok (.getfield 201, 3) := by decide +kernel
theorem dX10_writeChoices_22 : decode cX10_writeChoices 22 = .ok (.if_icmp .ge 67, 3) := by decide +kernel
theorem dX10_writeChoices_25 : decode cX10_writeChoices 25 = .ok (.iconst 0, 1) := by decide +kernel
theorem dX10_writeChoices_26 : decode cX10_writeChoices 26 = .ok (.istore_n 2, 1) := by decide +kernel
theorem dX10_writeChoices_27 : decode cX10_writeChoices 27 = .ok (.iload_n 2, 1) := by decide +kernel
theorem dX10_writeChoices_28 : decode cX10_writeChoices 28 = .ok (.aload_n 0, 1) := by decide +kernel
theorem dX10_writeChoices_29 : decode cX10_writeChoices 29 = .ok (.getfield 27, 3) := by decide +kernel
theorem dX10_writeChoices_32 : decode cX10_writeChoices 32 = .ok (.getfield 140, 3) := by decide +kernel
theorem dX10_writeChoices_35 : decode cX10_writeChoices 35 = .ok (.if_icmp .ge 39, 3) := by decide +kernel
theorem dX10_writeChoices_38 : decode cX10_writeChoices 38 = .ok (.aload_n 0, 1) := by decide +kernel
theorem dX10_writeChoices_39 : decode cX10_writeChoices 39 = .ok (.getfield 49, 3) := by decide +kernel
theorem dX10_writeChoices_42 : decode cX10_writeChoices 42 = .ok (.aload_n 0, 1) := by decide +kernel
theorem dX10_writeChoices_43 : decode cX10_writeChoices 43 = .ok (.getfield 70, 3) := by decide +kernel
theorem dX10_writeChoices_46 : decode cX10_writeChoices 46 = .ok (.getfield 209, 3) := by decide +kernel
theorem dX10_writeChoices_49 : decode cX10_writeChoices 49 = .ok (.iload_n 1, 1) := by decide +kernel
theorem dX10_writeChoices_50 : decode cX10_writeChoices 50 = .ok (.iaload, 1) := by decide +kernel
theorem dX10_writeChoices_51 : decode cX10_writeChoices 51 = .ok (.iload_n 2, 1) := by decide +kernel
theorem dX10_writeChoices_52 : decode cX10_writeChoices 52 = .ok (.invokestatic 347, 3) := by decide +kernel
theorem dX10_writeChoices_55 : decode cX10_writeChoices 55 = .ok (.ifCond .eq 8, 3) := by decide +kernel
theorem dX10_writeChoices_58 : decode cX10_writeChoices 58 = .ok (.bipush 49, 2) := by decide +kernel
theorem dX10_writeChoices_60 : decode cX10_writeChoices 60 = .ok (.goto 5, 3) := by decide +kernel
theorem dX10_writeChoices_63 : decode cX10_writeChoices 63 = .ok (.bipush 48, 2) := by decide +kernel
theorem dX10_writeChoices_65 : decode cX10_writeChoices 65 = .ok (.invokevirtual 384, 3) := by decide +kernel
theorem dX10_writeChoices_68 : decode cX10_writeChoices 68 = .ok (.iinc 2 1, 3) := by decide +kernel
theorem dX10_writeChoices_71 : decode cX10_writeChoices 71 = .ok (.goto (-44), 3) := by decide +kernel
theorem dX10_writeChoices_74 : decode cX10_writeChoices 74 = .ok (.aload_n 0, 1) := by decide +kernel
theorem dX10_writeChoices_75 : decode cX10_writeChoices 75 = .ok (.getfield 49, 3) := by decide +kernel
theorem dX10_writeChoices_78 : decode cX10_writeChoices 78 = .ok (.bipush 10, 2) := by decide +kernel
theorem dX10_writeChoices_80 : decode cX10_writeChoices 80 = .ok (.invokevirtual 384, 3) := by decide +kernel
theorem dX10_writeChoices_83 : decode cX10_writeChoices 83 = .ok (.iinc 1 1, 3) := by decide +kernel
theorem dX10_writeChoices_86 : decode cX10_writeChoices 86 = .ok (.goto (-72), 3) := by decide +kernel
theorem dX10_writeChoices_89 : decode cX10_writeChoices 89 = .ok (.aload_n 0, 1) := by decide +kernel
theorem dX10_writeChoices_90 : decode cX10_writeChoices 90 = .ok (.getfield 49, 3) := by decide +kernel
theorem dX10_writeChoices_93 : decode cX10_writeChoices 93 = .ok (.getfield 381, 3) := by decide +kernel
theorem dX10_writeChoices_96 : decode cX10_writeChoices 96 = .ok (.ireturn, 1) := by decide +kernel
theorem dX10_outputByte_0 : decode cX10_outputByte 0 = .ok (.iload_n 1, 1) := by decide +kernel
theorem dX10_outputByte_1 : decode cX10_outputByte 1 = .ok (.ifCond .lt 14, 3) := by decide +kernel
theorem dX10_outputByte_4 : decode cX10_outputByte 4 = .ok (.iload_n 1, 1) := by decide +kernel
theorem dX10_outputByte_5 : decode cX10_outputByte 5 = .ok (.aload_n 0, 1) := by decide +kernel
theorem dX10_outputByte_6 : decode cX10_outputByte 6 = .ok (.getfield 49, 3) := by decide +kernel
theorem dX10_outputByte_9 : decode cX10_outputByte 9 = .ok (.getfield 381, 3) := by decide +kernel
theorem dX10_outputByte_12 : decode cX10_outputByte 12 = .ok (.if_icmp .lt 14, 3) := by decide +kernel
theorem dX10_outputByte_15 : decode cX10_outputByte 15 = .ok (.new 240, 3) := by decide +kernel
theorem dX10_outputByte_18 : decode cX10_outputByte 18 = .ok (.dup, 1) := by decide +kernel
theorem dX10_outputByte_19 : decode cX10_outputByte 19 = .ok (.ldc_w 390, 3) := by decide +kernel
theorem dX10_outputByte_22 : decode cX10_outputByte 22 = .ok (.invokespecial 244, 3) := by decide +kernel
theorem dX10_outputByte_25 : decode cX10_outputByte 25 = .ok (.athrow, 1) := by decide +kernel
theorem dX10_outputByte_26 : decode cX10_outputByte 26 = .ok (.aload_n 0, 1) := by decide +kernel
theorem dX10_outputByte_27 : decode cX10_outputByte 27 = .ok (.getfield 49, 3) := by decide +kernel
theorem dX10_outputByte_30 : decode cX10_outputByte 30 = .ok (.getfield 392, 3) := by decide +kernel
theorem dX10_outputByte_33 : decode cX10_outputByte 33 = .ok (.iload_n 1, 1) := by decide +kernel
theorem dX10_outputByte_34 : decode cX10_outputByte 34 = .ok (.baload, 1) := by decide +kernel
theorem dX10_outputByte_35 : decode cX10_outputByte 35 = .ok (.ireturn, 1) := by decide +kernel
theorem dX10_markChanged_0 : decode cX10_markChanged 0 = .ok (.aload_n 0, 1) := by decide +kernel
theorem dX10_markChanged_1 : decode cX10_markChanged 1 = .ok (.iconst 0, 1) := by decide +kernel
theorem dX10_markChanged_2 : decode cX10_markChanged 2 = .ok (.putfield 395, 3) := by decide +kernel
theorem dX10_markChanged_5 : decode cX10_markChanged 5 = .ok (.aload_n 0, 1) := by decide +kernel
theorem dX10_markChanged_6 : decode cX10_markChanged 6 = .ok (.iconst 0, 1) := by decide +kernel
theorem dX10_markChanged_7 : decode cX10_markChanged 7 = .ok (.putfield 399, 3) := by decide +kernel
theorem dX10_markChanged_10 : decode cX10_markChanged 10 = .ok (.aload_n 0, 1) := by decide +kernel
theorem dX10_markChanged_11 : decode cX10_markChanged 11 = .ok (.iconst 0, 1) := by decide +kernel
theorem dX10_markChanged_12 : decode cX10_markChanged 12 = .ok (.putfield 402, 3) := by decide +kernel
theorem dX10_markChanged_15 : decode cX10_markChanged 15 = .ok (.return_, 1) := by decide +kernel
set_option maxRecDepth 20000 in
theorem ggX10_refreshFrontier_X0_build : GoodIn wsX10_refreshFrontier wsX0_build := goodIn_r _ [11, 12, 13, 14, 15, 16, 17, 18, 19, 20, 21, 22, 23, 24, 25, 26, 27, 28, 29, 146, 147, 148, 149, 150, 151, 152, 153, 154, 155, 156, 157, 158, 159, 160, 161, 162, 163, 164, 165] (by decide +kernel) (by decide +kernel)
set_option maxRecDepth 20000 in
theorem gX10_refreshFrontier_X0_build : GoodIn wsX10_refreshFrontier (wsV RX10 405 RX0 yX0_build wsX0_build) := goodIn_app (goodIn_of _ (by decide +kernel)) ggX10_refreshFrontier_X0_build
set_option maxRecDepth 20000 in
theorem ggX10_refreshFrontier_X9_build : GoodIn wsX10_refreshFrontier wsX9_build := goodIn_r _ [34, 35, 36, 37, 38, 39, 40, 41, 42, 43, 44, 45, 46, 10, 47, 20, 48, 49, 50, 51, 13, 26, 28, 15, 17, 52, 53, 54, 55, 56, 57, 58, 59, 60, 61, 33, 62, 63, 64, 65, 66, 166, 167, 157, 158, 159, 160, 161, 162, 163, 164, 165] (by decide +kernel) (by decide +kernel)
set_option maxRecDepth 20000 in
theorem gX10_refreshFrontier_X9_build : GoodIn wsX10_refreshFrontier (wsV RX10 290 RX9 yX9_build wsX9_build) := goodIn_app (goodIn_of _ (by decide +kernel)) ggX10_refreshFrontier_X9_build
set_option maxRecDepth 20000 in
theorem ggX10_refreshFrontier_X2_build : GoodIn wsX10_refreshFrontier wsX2_build := goodIn_r _ [71, 72, 73, 74, 75, 76, 77, 33, 78, 35, 79, 80, 81, 70, 82, 83, 84, 85, 86, 87, 88, 89, 90, 91, 92, 93, 94, 95, 96, 97, 98, 99, 100, 101, 102, 103, 104, 45, 46, 10, 47, 20, 48, 49, 50, 51, 13, 26, 28, 15, 17, 52, 53, 54, 55, 56, 57, 58, 105, 106, 107, 108, 109, 110, 111, 112, 113, 114, 115, 116, 117, 118, 119, 120, 121, 122, 123, 124, 125, 126, 166, 167, 168, 169, 170, 171, 172, 173, 174, 175, 176, 177, 178, 179, 180, 157, 158, 159, 160, 161, 162, 163, 164, 165] (by decide +kernel) (by decide +kernel)
set_option maxRecDepth 20000 in
theorem gX10_refreshFrontier_X2_build : GoodIn wsX10_refreshFrontier (wsV RX10 407 RX2 yX2_build wsX2_build) := goodIn_app (goodIn_of _ (by decide +kernel)) ggX10_refreshFrontier_X2_build
theorem dX10_refreshFrontier_0 : decode cX10_refreshFrontier 0 = .ok (.aload_n 0, 1) := by decide +kernel
theorem dX10_refreshFrontier_1 : decode cX10_refreshFrontier 1 = .ok (.getfield 395, 3) := by decide +kernel
theorem dX10_refreshFrontier_4 : decode cX10_refreshFrontier 4 = .ok (.ifCond .ne 60, 3) := by decide +kernel
theorem dX10_refreshFrontier_7 : decode cX10_refreshFrontier 7 = .ok (.aload_n 0, 1) := by decide +kernel
theorem dX10_refreshFrontier_8 : decode cX10_refreshFrontier 8 = .ok (.getfield 56, 3) := by decide +kernel
theorem dX10_refreshFrontier_11 : decode cX10_refreshFrontier 11 = .ok (.aload_n 0, 1) := by decide +kernel
theorem dX10_refreshFrontier_12 : decode cX10_refreshFrontier 12 = .ok (.getfield 27, 3) := by decide +kernel
theorem dX10_refreshFrontier_15 : decode cX10_refreshFrontier 15 = .ok (.invokevirtual 405, 3) := by decide +kernel
theorem dX10_refreshFrontier_18 : decode cX10_refreshFrontier 18 = .ok (.aload_n 0, 1) := by decide +kernel
theorem dX10_refreshFrontier_19 : decode cX10_refreshFrontier 19 = .ok (.getfield 63, 3) := by decide +kernel
theorem dX10_refreshFrontier_22 : decode cX10_refreshFrontier 22 = .ok (.aload_n 0, 1) := by decide +kernel
theorem dX10_refreshFrontier_23 : decode cX10_refreshFrontier 23 = .ok (.getfield 56, 3) := by decide +kernel
theorem dX10_refreshFrontier_26 : decode cX10_refreshFrontier 26 = .ok (.aload_n 0, 1) := by decide +kernel
theorem dX10_refreshFrontier_27 : decode cX10_refreshFrontier 27 = .ok (.getfield 27, 3) := by decide +kernel
theorem dX10_refreshFrontier_30 : decode cX10_refreshFrontier 30 = .ok (.getfield 147, 3) := by decide +kernel
theorem dX10_refreshFrontier_33 : decode cX10_refreshFrontier 33 = .ok (.iconst 0, 1) := by decide +kernel
theorem dX10_refreshFrontier_34 : decode cX10_refreshFrontier 34 = .ok (.invokevirtual 290, 3) := by decide +kernel
theorem dX10_refreshFrontier_37 : decode cX10_refreshFrontier 37 = .ok (.aload_n 0, 1) := by decide +kernel
theorem dX10_refreshFrontier_38 : decode cX10_refreshFrontier 38 = .ok (.getfield 70, 3) := by decide +kernel
theorem dX10_refreshFrontier_41 : decode cX10_refreshFrontier 41 = .ok (.aload_n 0, 1) := by decide +kernel
theorem dX10_refreshFrontier_42 : decode cX10_refreshFrontier 42 = .ok (.getfield 56, 3) := by decide +kernel
theorem dX10_refreshFrontier_45 : decode cX10_refreshFrontier 45 = .ok (.aload_n 0, 1) := by decide +kernel
theorem dX10_refreshFrontier_46 : decode cX10_refreshFrontier 46 = .ok (.getfield 27, 3) := by decide +kernel
theorem dX10_refreshFrontier_49 : decode cX10_refreshFrontier 49 = .ok (.getfield 147, 3) := by decide +kernel
theorem dX10_refreshFrontier_52 : decode cX10_refreshFrontier 52 = .ok (.aload_n 0, 1) := by decide +kernel
theorem dX10_refreshFrontier_53 : decode cX10_refreshFrontier 53 = .ok (.getfield 63, 3) := by decide +kernel
theorem dX10_refreshFrontier_56 : decode cX10_refreshFrontier 56 = .ok (.invokevirtual 407, 3) := by decide +kernel
theorem dX10_refreshFrontier_59 : decode cX10_refreshFrontier 59 = .ok (.aload_n 0, 1) := by decide +kernel
theorem dX10_refreshFrontier_60 : decode cX10_refreshFrontier 60 = .ok (.iconst 1, 1) := by decide +kernel
theorem dX10_refreshFrontier_61 : decode cX10_refreshFrontier 61 = .ok (.putfield 395, 3) := by decide +kernel
theorem dX10_refreshFrontier_64 : decode cX10_refreshFrontier 64 = .ok (.return_, 1) := by decide +kernel
set_option maxRecDepth 20000 in
theorem ggX10_refreshSearch_X10_refreshFrontier : GoodIn wsX10_refreshSearch wsX10_refreshFrontier := goodIn_r _ [8, 9, 10, 11, 12, 13, 3, 14, 15, 16, 17, 18, 19, 20, 21, 22, 23, 24, 25, 26, 27, 28, 29, 30, 31, 32, 33, 34, 35, 36, 37, 38, 39, 40, 41, 42, 43, 44, 45, 46, 47, 48, 49, 50, 51, 52, 53, 54, 55, 56, 57, 58, 59, 60, 61, 62, 63, 64, 65, 66, 67, 68, 69, 70, 71, 72, 73, 74, 75, 76, 77, 78, 79, 80, 81, 82, 83, 84, 85, 86, 87, 88, 89, 90, 91, 92, 93, 94, 95, 96, 97, 98, 99, 100, 101, 102, 103, 104, 105, 106, 107, 108, 109, 110, 111, 112, 113, 114, 115, 116, 117, 118, 119, 120, 121, 122, 123, 124, 125, 126, 127, 128, 129, 130, 131, 132, 133, 162, 163, 164, 165, 166, 167, 168, 169, 170, 171, 172, 173, 174, 175, 176, 177, 178, 179, 180, 181, 182, 183, 184, 185, 186, 187, 188, 189, 190, 191, 192, 193, 194, 195, 196, 197, 198, 199, 200, 201, 202, 203, 204, 205, 206, 207, 208, 209, 210, 211, 212, 213, 214, 215] (by decide +kernel) (by decide +kernel)
set_option maxRecDepth 20000 in
theorem gX10_refreshSearch_X10_refreshFrontier : GoodIn wsX10_refreshSearch (wsV RX10 188 RX10 yX10_refreshFrontier wsX10_refreshFrontier) := goodIn_app (goodIn_of _ (by decide +kernel)) ggX10_refreshSearch_X10_refreshFrontier
set_option maxRecDepth 20000 in
theorem ggX10_refreshSearch_X7_run : GoodIn wsX10_refreshSearch wsX7_run := goodIn_r _ [138, 139, 140, 141, 142, 143, 144, 145, 146, 137, 147, 148, 149, 150, 151, 127, 128, 77, 129, 94, 152, 123, 124, 125, 93, 153, 154, 155, 156, 90, 157, 158, 159, 160, 161, 216, 217, 218, 219, 203, 204, 205, 206, 207, 208, 209, 210, 211, 212, 213, 214, 215] (by decide +kernel) (by decide +kernel)
set_option maxRecDepth 20000 in
theorem gX10_refreshSearch_X7_run : GoodIn wsX10_refreshSearch (wsV RX10 410 RX7 yX7_run wsX7_run) := goodIn_app (goodIn_of _ (by decide +kernel)) ggX10_refreshSearch_X7_run
theorem dX10_refreshSearch_0 : decode cX10_refreshSearch 0 = .ok (.aload_n 0, 1) := by decide +kernel
theorem dX10_refreshSearch_1 : decode cX10_refreshSearch 1 = .ok (.invokevirtual 188, 3) := by decide +kernel
theorem dX10_refreshSearch_4 : decode cX10_refreshSearch 4 = .ok (.aload_n 0, 1) := by decide +kernel
theorem dX10_refreshSearch_5 : decode cX10_refreshSearch 5 = .ok (.getfield 399, 3) := by decide +kernel
theorem dX10_refreshSearch_8 : decode cX10_refreshSearch 8 = .ok (.ifCond .ne 19, 3) := by decide +kernel
theorem dX10_refreshSearch_11 : decode cX10_refreshSearch 11 = .ok (.aload_n 0, 1) := by decide +kernel
theorem dX10_refreshSearch_12 : decode cX10_refreshSearch 12 = .ok (.getfield 77, 3) := by decide +kernel
theorem dX10_refreshSearch_15 : decode cX10_refreshSearch 15 = .ok (.aload_n 0, 1) := by decide +kernel
theorem dX10_refreshSearch_16 : decode cX10_refreshSearch 16 = .ok (.getfield 70, 3) := by decide +kernel
theorem dX10_refreshSearch_19 : decode cX10_refreshSearch 19 = .ok (.invokevirtual 410, 3) := by decide +kernel
theorem dX10_refreshSearch_22 : decode cX10_refreshSearch 22 = .ok (.aload_n 0, 1) := by decide +kernel
theorem dX10_refreshSearch_23 : decode cX10_refreshSearch 23 = .ok (.iconst 1, 1) := by decide +kernel
theorem dX10_refreshSearch_24 : decode cX10_refreshSearch 24 = .ok (.putfield 399, 3) := by decide +kernel
theorem dX10_refreshSearch_27 : decode cX10_refreshSearch 27 = .ok (.return_, 1) := by decide +kernel
set_option maxRecDepth 20000 in
theorem ggX10_refreshLayers_X10_refreshFrontier : GoodIn wsX10_refreshLayers wsX10_refreshFrontier := goodIn_r _ [10, 11, 3, 4, 12, 5, 13, 14, 15, 16, 17, 18, 19, 20, 21, 22, 23, 24, 25, 26, 27, 28, 29, 30, 31, 32, 33, 34, 35, 36, 37, 38, 39, 40, 41, 42, 43, 44, 45, 46, 47, 48, 49, 50, 51, 52, 53, 54, 55, 56, 57, 58, 59, 60, 61, 62, 63, 64, 65, 66, 67, 68, 69, 70, 71, 72, 73, 74, 75, 76, 77, 78, 79, 80, 81, 82, 83, 84, 85, 86, 87, 88, 89, 90, 91, 92, 93, 94, 95, 96, 97, 98, 99, 100, 101, 102, 103, 104, 105, 106, 107, 108, 109, 110, 111, 112, 113, 114, 115, 116, 117, 118, 119, 120, 121, 122, 123, 124, 125, 126, 127, 128, 129, 130, 131, 132, 133, 175, 176, 177, 178, 179, 180, 181, 182, 183, 184, 185, 186, 187, 188, 189, 190, 191, 192, 193, 194, 195, 196, 197, 198, 199, 200, 201, 202, 203, 204, 205, 206, 207, 208, 209, 210, 211, 212, 213, 214, 215, 216, 217, 218, 219, 220, 221, 222, 223, 224, 225, 226, 227, 228] (by decide +kernel) (by decide +kernel)
set_option maxRecDepth 20000 in
theorem gX10_refreshLayers_X10_refreshFrontier : GoodIn wsX10_refreshLayers (wsV RX10 188 RX10 yX10_refreshFrontier wsX10_refreshFrontier) := goodIn_app (goodIn_of _ (by decide +kernel)) ggX10_refreshLayers_X10_refreshFrontier
set_option maxRecDepth 20000 in
theorem ggX10_refreshLayers_X3_build : GoodIn wsX10_refreshLayers wsX3_build := goodIn_r _ [138, 139, 140, 141, 142, 137, 143, 144, 145, 146, 147, 148, 149, 48, 49, 50, 150, 52, 53, 17, 54, 27, 55, 56, 57, 58, 20, 33, 35, 22, 24, 59, 60, 61, 62, 63, 64, 65, 151, 152, 153, 154, 155, 156, 157, 158, 159, 160, 161, 162, 163, 164, 165, 166, 167, 168, 169, 170, 171, 172, 173, 174, 229, 230, 231, 232, 233, 234, 235, 236, 205, 206, 207, 208, 209, 210, 211, 212, 213] (by decide +kernel) (by decide +kernel)
set_option maxRecDepth 20000 in
theorem gX10_refreshLayers_X3_build : GoodIn wsX10_refreshLayers (wsV RX10 413 RX3 yX3_build wsX3_build) := goodIn_app (goodIn_of _ (by decide +kernel)) ggX10_refreshLayers_X3_build
theorem dX10_refreshLayers_0 : decode cX10_refreshLayers 0 = .ok (.aload_n 0, 1) := by decide +kernel
theorem dX10_refreshLayers_1 : decode cX10_refreshLayers 1 = .ok (.invokevirtual 188, 3) := by decide +kernel
theorem dX10_refreshLayers_4 : decode cX10_refreshLayers 4 = .ok (.aload_n 0, 1) := by decide +kernel
theorem dX10_refreshLayers_5 : decode cX10_refreshLayers 5 = .ok (.getfield 402, 3) := by decide +kernel
theorem dX10_refreshLayers_8 : decode cX10_refreshLayers 8 = .ok (.ifCond .ne 26, 3) := by decide +kernel
theorem dX10_refreshLayers_11 : decode cX10_refreshLayers 11 = .ok (.aload_n 0, 1) := by decide +kernel
theorem dX10_refreshLayers_12 : decode cX10_refreshLayers 12 = .ok (.getfield 84, 3) := by decide +kernel
theorem dX10_refreshLayers_15 : decode cX10_refreshLayers 15 = .ok (.aload_n 0, 1) := by decide +kernel
theorem dX10_refreshLayers_16 : decode cX10_refreshLayers 16 = .ok (.getfield 56, 3) := by decide +kernel
theorem dX10_refreshLayers_19 : decode cX10_refreshLayers 19 = .ok (.aload_n 0, 1) := by decide +kernel
theorem dX10_refreshLayers_20 : decode cX10_refreshLayers 20 = .ok (.getfield 27, 3) := by decide +kernel
theorem dX10_refreshLayers_23 : decode cX10_refreshLayers 23 = .ok (.getfield 147, 3) := by decide +kernel
theorem dX10_refreshLayers_26 : decode cX10_refreshLayers 26 = .ok (.invokevirtual 413, 3) := by decide +kernel
theorem dX10_refreshLayers_29 : decode cX10_refreshLayers 29 = .ok (.aload_n 0, 1) := by decide +kernel
theorem dX10_refreshLayers_30 : decode cX10_refreshLayers 30 = .ok (.iconst 1, 1) := by decide +kernel
theorem dX10_refreshLayers_31 : decode cX10_refreshLayers 31 = .ok (.putfield 402, 3) := by decide +kernel
theorem dX10_refreshLayers_34 : decode cX10_refreshLayers 34 = .ok (.return_, 1) := by decide +kernel
set_option maxRecDepth 20000 in
theorem ggX10_requireItem_X8_hasItem : GoodIn wsX10_requireItem wsX8_hasItem := goodIn_r _ [8, 9, 29, 30, 31, 32, 33, 34, 35, 36, 37, 38, 39] (by decide +kernel) (by decide +kernel)
set_option maxRecDepth 20000 in
theorem gX10_requireItem_X8_hasItem : GoodIn wsX10_requireItem (wsV RX10 416 RX8 yX8_hasItem wsX8_hasItem) := goodIn_app (goodIn_of _ (by decide +kernel)) ggX10_requireItem_X8_hasItem
theorem dX10_requireItem_0 : decode cX10_requireItem 0 = .ok (.aload_n 0, 1) := by decide +kernel
theorem dX10_requireItem_1 : decode cX10_requireItem 1 = .ok (.getfield 27, 3) := by decide +kernel
theorem dX10_requireItem_4 : decode cX10_requireItem 4 = .ok (.iload_n 1, 1) := by decide +kernel
theorem dX10_requireItem_5 : decode cX10_requireItem 5 = .ok (.invokevirtual 416, 3) := by decide +kernel
theorem dX10_requireItem_8 : decode cX10_requireItem 8 = .ok (.ifCond .ne 14, 3) := by decide +kernel
theorem dX10_requireItem_11 : decode cX10_requireItem 11 = .ok (.new 240, 3) := by decide +kernel
theorem dX10_requireItem_14 : decode cX10_requireItem 14 = .ok (.dup, 1) := by decide +kernel
theorem dX10_requireItem_15 : decode cX10_requireItem 15 = .ok (.ldc_w 420, 3) := by decide +kernel
theorem dX10_requireItem_18 : decode cX10_requireItem 18 = .ok (.invokespecial 244, 3) := by decide +kernel
theorem dX10_requireItem_21 : decode cX10_requireItem 21 = .ok (.athrow, 1) := by decide +kernel
theorem dX10_requireItem_22 : decode cX10_requireItem 22 = .ok (.return_, 1) := by decide +kernel
set_option maxRecDepth 20000 in
theorem ggX10_requireTwoItems_X10_requireItem : GoodIn wsX10_requireTwoItems wsX10_requireItem := goodIn_ca (goodIn_r _ [7, 8, 9, 10, 11, 12, 13, 14, 15, 16, 17, 18, 19, 20, 21, 22, 23, 24, 25, 26, 27, 28, 29, 30, 31, 32, 33, 34, 35, 36, 37, 38, 39, 40, 41, 42, 43, 44, 45, 46] (by decide +kernel) (by decide +kernel)) (goodIn_sub (fun _ h => List.mem_cons_of_mem _ (List.mem_append_right _ h)) (by decide +kernel))
set_option maxRecDepth 20000 in
theorem gX10_requireTwoItems_X10_requireItem : GoodIn wsX10_requireTwoItems (wsV RX10 173 RX10 yX10_requireItem wsX10_requireItem) := goodIn_app (goodIn_of _ (by decide +kernel)) ggX10_requireTwoItems_X10_requireItem
theorem dX10_requireTwoItems_0 : decode cX10_requireTwoItems 0 = .ok (.aload_n 0, 1) := by decide +kernel
theorem dX10_requireTwoItems_1 : decode cX10_requireTwoItems 1 = .ok (.iload_n 1, 1) := by decide +kernel
theorem dX10_requireTwoItems_2 : decode cX10_requireTwoItems 2 = .ok (.invokevirtual 173, 3) := by decide +kernel
theorem dX10_requireTwoItems_5 : decode cX10_requireTwoItems 5 = .ok (.aload_n 0, 1) := by decide +kernel
theorem dX10_requireTwoItems_6 : decode cX10_requireTwoItems 6 = .ok (.iload_n 2, 1) := by decide +kernel
theorem dX10_requireTwoItems_7 : decode cX10_requireTwoItems 7 = .ok (.invokevirtual 173, 3) := by decide +kernel
theorem dX10_requireTwoItems_10 : decode cX10_requireTwoItems 10 = .ok (.iload_n 1, 1) := by decide +kernel
theorem dX10_requireTwoItems_11 : decode cX10_requireTwoItems 11 = .ok (.iload_n 2, 1) := by decide +kernel
theorem dX10_requireTwoItems_12 : decode cX10_requireTwoItems 12 = .ok (.if_icmp .ne 14, 3) := by decide +kernel
theorem dX10_requireTwoItems_15 : decode cX10_requireTwoItems 15 = .ok (.new 109, 3) := by decide +kernel
theorem dX10_requireTwoItems_18 : decode cX10_requireTwoItems 18 = .ok (.dup, 1) := by decide +kernel
theorem dX10_requireTwoItems_19 : decode cX10_requireTwoItems 19 = .ok (.ldc_w 422, 3) := by decide +kernel
theorem dX10_requireTwoItems_22 : decode cX10_requireTwoItems 22 = .ok (.invokespecial 113, 3) := by decide +kernel
theorem dX10_requireTwoItems_25 : decode cX10_requireTwoItems 25 = .ok (.athrow, 1) := by decide +kernel
theorem dX10_requireTwoItems_26 : decode cX10_requireTwoItems 26 = .ok (.return_, 1) := by decide +kernel
set_option maxRecDepth 20000 in
theorem ggX10_requireSet_X8_everyItem : GoodIn wsX10_requireSet wsX8_everyItem := goodIn_r _ [8, 9, 29, 30, 31, 32, 33, 34, 35, 36, 37, 38, 39] (by decide +kernel) (by decide +kernel)
set_option maxRecDepth 20000 in
theorem gX10_requireSet_X8_everyItem : GoodIn wsX10_requireSet (wsV RX10 282 RX8 yX8_everyItem wsX8_everyItem) := goodIn_app (goodIn_of _ (by decide +kernel)) ggX10_requireSet_X8_everyItem
theorem dX10_requireSet_0 : decode cX10_requireSet 0 = .ok (.iload_n 1, 1) := by decide +kernel
theorem dX10_requireSet_1 : decode cX10_requireSet 1 = .ok (.ifCond .lt 14, 3) := by decide +kernel
theorem dX10_requireSet_4 : decode cX10_requireSet 4 = .ok (.iload_n 1, 1) := by decide +kernel
theorem dX10_requireSet_5 : decode cX10_requireSet 5 = .ok (.aload_n 0, 1) := by decide +kernel
theorem dX10_requireSet_6 : decode cX10_requireSet 6 = .ok (.getfield 27, 3) := by decide +kernel
theorem dX10_requireSet_9 : decode cX10_requireSet 9 = .ok (.invokevirtual 282, 3) := by decide +kernel
theorem dX10_requireSet_12 : decode cX10_requireSet 12 = .ok (.if_icmp .le 14, 3) := by decide +kernel
theorem dX10_requireSet_15 : decode cX10_requireSet 15 = .ok (.new 109, 3) := by decide +kernel
theorem dX10_requireSet_18 : decode cX10_requireSet 18 = .ok (.dup, 1) := by decide +kernel
theorem dX10_requireSet_19 : decode cX10_requireSet 19 = .ok (.ldc_w 424, 3) := by decide +kernel
theorem dX10_requireSet_22 : decode cX10_requireSet 22 = .ok (.invokespecial 113, 3) := by decide +kernel
theorem dX10_requireSet_25 : decode cX10_requireSet 25 = .ok (.athrow, 1) := by decide +kernel
theorem dX10_requireSet_26 : decode cX10_requireSet 26 = .ok (.return_, 1) := by decide +kernel
set_option maxRecDepth 20000 in
theorem ggX10_requireAllowed_X10_refreshFrontier : GoodIn wsX10_requireAllowed wsX10_refreshFrontier := goodIn_r _ [10, 11, 3, 4, 12, 5, 13, 14, 15, 16, 17, 18, 19, 20, 21, 22, 23, 24, 25, 26, 27, 28, 29, 30, 31, 32, 33, 34, 35, 36, 37, 38, 39, 40, 41, 42, 43, 44, 45, 46, 47, 48, 49, 50, 51, 52, 53, 54, 55, 56, 57, 58, 59, 60, 61, 62, 63, 64, 65, 66, 67, 68, 69, 70, 71, 72, 73, 74, 75, 76, 77, 78, 79, 80, 81, 82, 83, 84, 85, 86, 87, 88, 89, 90, 91, 92, 93, 94, 95, 96, 97, 98, 99, 100, 101, 102, 103, 104, 105, 106, 107, 108, 109, 110, 111, 112, 113, 114, 115, 116, 117, 118, 119, 120, 121, 122, 123, 124, 125, 126, 127, 128, 129, 130, 131, 132, 133, 135, 136, 137, 138, 139, 140, 141, 142, 143, 144, 145, 146, 147, 148, 149, 150, 151, 152, 153, 154, 155, 156, 157, 158, 159, 160, 161, 162, 163, 164, 165, 166, 167, 168, 169, 170, 171, 172, 173, 174, 175, 176, 177, 178, 179, 180, 181, 182, 183, 184, 185, 186, 187, 188] (by decide +kernel) (by decide +kernel)
set_option maxRecDepth 20000 in
theorem gX10_requireAllowed_X10_refreshFrontier : GoodIn wsX10_requireAllowed (wsV RX10 188 RX10 yX10_refreshFrontier wsX10_refreshFrontier) := goodIn_app (goodIn_of _ (by decide +kernel)) ggX10_requireAllowed_X10_refreshFrontier
set_option maxRecDepth 20000 in
theorem ggX10_requireAllowed_X0_reason : GoodIn wsX10_requireAllowed wsX0_reason := goodIn_r _ [54, 27, 55, 56, 57, 17, 58, 20, 33, 35, 22, 24, 59, 60, 61, 62, 63, 64, 65, 165, 166, 167, 168, 169, 170, 171, 172, 173] (by decide +kernel) (by decide +kernel)
set_option maxRecDepth 20000 in
theorem gX10_requireAllowed_X0_reason : GoodIn wsX10_requireAllowed (wsV RX10 191 RX0 yX0_reason wsX0_reason) := goodIn_app (goodIn_of _ (by decide +kernel)) ggX10_requireAllowed_X0_reason
theorem dX10_requireAllowed_0 : decode cX10_requireAllowed 0 = .ok (.aload_n 0, 1) := by decide +kernel
theorem dX10_requireAllowed_1 : decode cX10_requireAllowed 1 = .ok (.invokevirtual 188, 3) := by decide +kernel
theorem dX10_requireAllowed_4 : decode cX10_requireAllowed 4 = .ok (.aload_n 0, 1) := by decide +kernel
theorem dX10_requireAllowed_5 : decode cX10_requireAllowed 5 = .ok (.getfield 56, 3) := by decide +kernel
theorem dX10_requireAllowed_8 : decode cX10_requireAllowed 8 = .ok (.iload_n 1, 1) := by decide +kernel
theorem dX10_requireAllowed_9 : decode cX10_requireAllowed 9 = .ok (.aload_n 0, 1) := by decide +kernel
theorem dX10_requireAllowed_10 : decode cX10_requireAllowed 10 = .ok (.getfield 27, 3) := by decide +kernel
theorem dX10_requireAllowed_13 : decode cX10_requireAllowed 13 = .ok (.getfield 147, 3) := by decide +kernel
theorem dX10_requireAllowed_16 : decode cX10_requireAllowed 16 = .ok (.invokevirtual 191, 3) := by decide +kernel
theorem dX10_requireAllowed_19 : decode cX10_requireAllowed 19 = .ok (.ifCond .eq 14, 3) := by decide +kernel
theorem dX10_requireAllowed_22 : decode cX10_requireAllowed 22 = .ok (.new 98, 3) := by decide +kernel
theorem dX10_requireAllowed_25 : decode cX10_requireAllowed 25 = .ok (.dup, 1) := by decide +kernel
theorem dX10_requireAllowed_26 : decode cX10_requireAllowed 26 = .ok (.ldc_w 426, 3) := by decide +kernel
theorem dX10_requireAllowed_29 : decode cX10_requireAllowed 29 = .ok (.invokespecial 102, 3) := by decide +kernel
theorem dX10_requireAllowed_32 : decode cX10_requireAllowed 32 = .ok (.athrow, 1) := by decide +kernel
theorem dX10_requireAllowed_33 : decode cX10_requireAllowed 33 = .ok (.return_, 1) := by decide +kernel
set_option maxRecDepth 20000 in
theorem ggX10_requirePoint_X10_refreshFrontier : GoodIn wsX10_requirePoint wsX10_refreshFrontier := goodIn_r _ [9, 10, 11, 12, 13, 14, 3, 15, 16, 17, 18, 19, 20, 21, 22, 23, 24, 25, 26, 27, 28, 29, 30, 31, 32, 33, 34, 35, 36, 37, 38, 39, 40, 41, 42, 43, 44, 45, 46, 47, 48, 49, 50, 51, 52, 53, 54, 55, 56, 57, 58, 59, 60, 61, 62, 63, 64, 65, 66, 67, 68, 69, 70, 71, 72, 73, 74, 75, 76, 77, 78, 79, 80, 81, 82, 83, 84, 85, 86, 87, 88, 89, 90, 91, 92, 93, 94, 95, 96, 97, 98, 99, 100, 101, 102, 103, 104, 105, 106, 107, 108, 109, 110, 111, 112, 113, 114, 115, 116, 117, 118, 119, 120, 121, 122, 123, 124, 125, 126, 127, 128, 129, 130, 131, 132, 133, 134, 135, 136, 137, 138, 139, 140, 141, 142, 143, 144, 145, 146, 147, 148, 149, 150, 151, 152, 153, 167, 168, 169, 170, 171, 172, 173, 174, 175, 176, 177, 178, 179, 180, 181, 182, 183, 184, 185, 186, 187, 188, 154, 155, 156, 157, 158, 159, 160, 161, 162, 163, 164, 165, 166] (by decide +kernel) (by decide +kernel)
set_option maxRecDepth 20000 in
theorem gX10_requirePoint_X10_refreshFrontier : GoodIn wsX10_requirePoint (wsV RX10 188 RX10 yX10_refreshFrontier wsX10_refreshFrontier) := goodIn_app (goodIn_of _ (by decide +kernel)) ggX10_requirePoint_X10_refreshFrontier
theorem dX10_requirePoint_0 : decode cX10_requirePoint 0 = .ok (.aload_n 0, 1) := by decide +kernel
theorem dX10_requirePoint_1 : decode cX10_requirePoint 1 = .ok (.invokevirtual 188, 3) := by decide +kernel
theorem dX10_requirePoint_4 : decode cX10_requirePoint 4 = .ok (.iload_n 1, 1) := by decide +kernel
theorem dX10_requirePoint_5 : decode cX10_requirePoint 5 = .ok (.ifCond .lt 14, 3) := by decide +kernel
theorem dX10_requirePoint_8 : decode cX10_requirePoint 8 = .ok (.iload_n 1, 1) := by decide +kernel
theorem dX10_requirePoint_9 : decode cX10_requirePoint 9 = .ok (.aload_n 0, 1) := by decide +kernel
theorem dX10_requirePoint_10 : decode cX10_requirePoint 10 = .ok (.getfield 70, 3) := by decide +kernel
theorem dX10_requirePoint_13 : decode cX10_requirePoint 13 = .ok (.getfield 201, 3) := by decide +kernel
theorem dX10_requirePoint_16 : decode cX10_requirePoint 16 = .ok (.if_icmp .lt 14, 3) := by decide +kernel
theorem dX10_requirePoint_19 : decode cX10_requirePoint 19 = .ok (.new 240, 3) := by decide +kernel
theorem dX10_requirePoint_22 : decode cX10_requirePoint 22 = .ok (.dup, 1) := by decide +kernel
theorem dX10_requirePoint_23 : decode cX10_requirePoint 23 = .ok (.ldc_w 428, 3) := by decide +kernel
theorem dX10_requirePoint_26 : decode cX10_requirePoint 26 = .ok (.invokespecial 244, 3) := by decide +kernel
theorem dX10_requirePoint_29 : decode cX10_requirePoint 29 = .ok (.athrow, 1) := by decide +kernel
theorem dX10_requirePoint_30 : decode cX10_requirePoint 30 = .ok (.return_, 1) := by decide +kernel
theorem dX10_requireSlot_0 : decode cX10_requireSlot 0 = .ok (.iload_n 0, 1) := by decide +kernel
theorem dX10_requireSlot_1 : decode cX10_requireSlot 1 = .ok (.ifCond .lt 8, 3) := by decide +kernel
theorem dX10_requireSlot_4 : decode cX10_requireSlot 4 = .ok (.iload_n 0, 1) := by decide +kernel
theorem dX10_requireSlot_5 : decode cX10_requireSlot 5 = .ok (.iconst 2, 1) := by decide +kernel
theorem dX10_requireSlot_6 : decode cX10_requireSlot 6 = .ok (.if_icmp .lt 14, 3) := by decide +kernel
theorem dX10_requireSlot_9 : decode cX10_requireSlot 9 = .ok (.new 240, 3) := by decide +kernel
theorem dX10_requireSlot_12 : decode cX10_requireSlot 12 = .ok (.dup, 1) := by decide +kernel
theorem dX10_requireSlot_13 : decode cX10_requireSlot 13 = .ok (.ldc_w 430, 3) := by decide +kernel
theorem dX10_requireSlot_16 : decode cX10_requireSlot 16 = .ok (.invokespecial 244, 3) := by decide +kernel
theorem dX10_requireSlot_19 : decode cX10_requireSlot 19 = .ok (.athrow, 1) := by decide +kernel
theorem dX10_requireSlot_20 : decode cX10_requireSlot 20 = .ok (.return_, 1) := by decide +kernel
theorem dX10_requireWhat_0 : decode cX10_requireWhat 0 = .ok (.iload_n 0, 1) := by decide +kernel
theorem dX10_requireWhat_1 : decode cX10_requireWhat 1 = .ok (.ifCond .lt 8, 3) := by decide +kernel
theorem dX10_requireWhat_4 : decode cX10_requireWhat 4 = .ok (.iload_n 0, 1) := by decide +kernel
theorem dX10_requireWhat_5 : decode cX10_requireWhat 5 = .ok (.iload_n 1, 1) := by decide +kernel
theorem dX10_requireWhat_6 : decode cX10_requireWhat 6 = .ok (.if_icmp .le 14, 3) := by decide +kernel
theorem dX10_requireWhat_9 : decode cX10_requireWhat 9 = .ok (.new 109, 3) := by decide +kernel
theorem dX10_requireWhat_12 : decode cX10_requireWhat 12 = .ok (.dup, 1) := by decide +kernel
theorem dX10_requireWhat_13 : decode cX10_requireWhat 13 = .ok (.ldc_w 432, 3) := by decide +kernel
theorem dX10_requireWhat_16 : decode cX10_requireWhat 16 = .ok (.invokespecial 113, 3) := by decide +kernel
theorem dX10_requireWhat_19 : decode cX10_requireWhat 19 = .ok (.athrow, 1) := by decide +kernel
theorem dX10_requireWhat_20 : decode cX10_requireWhat 20 = .ok (.return_, 1) := by decide +kernel
theorem dX10_requireValue_0 : decode cX10_requireValue 0 = .ok (.iload_n 0, 1) := by decide +kernel
theorem dX10_requireValue_1 : decode cX10_requireValue 1 = .ok (.ifCond .lt 9, 3) := by decide +kernel
theorem dX10_requireValue_4 : decode cX10_requireValue 4 = .ok (.iload_n 0, 1) := by decide +kernel
theorem dX10_requireValue_5 : decode cX10_requireValue 5 = .ok (.bipush 99, 2) := by decide +kernel
theorem dX10_requireValue_7 : decode cX10_requireValue 7 = .ok (.if_icmp .le 14, 3) := by decide +kernel
theorem dX10_requireValue_10 : decode cX10_requireValue 10 = .ok (.new 109, 3) := by decide +kernel
theorem dX10_requireValue_13 : decode cX10_requireValue 13 = .ok (.dup, 1) := by decide +kernel
theorem dX10_requireValue_14 : decode cX10_requireValue 14 = .ok (.ldc_w 434, 3) := by decide +kernel
theorem dX10_requireValue_17 : decode cX10_requireValue 17 = .ok (.invokespecial 113, 3) := by decide +kernel
theorem dX10_requireValue_20 : decode cX10_requireValue 20 = .ok (.athrow, 1) := by decide +kernel
theorem dX10_requireValue_21 : decode cX10_requireValue 21 = .ok (.return_, 1) := by decide +kernel
theorem dX10_requireCapacity_0 : decode cX10_requireCapacity 0 = .ok (.iload_n 0, 1) := by decide +kernel
theorem dX10_requireCapacity_1 : decode cX10_requireCapacity 1 = .ok (.ifCond .lt 10, 3) := by decide +kernel
theorem dX10_requireCapacity_4 : decode cX10_requireCapacity 4 = .ok (.iload_n 0, 1) := by decide +kernel
theorem dX10_requireCapacity_5 : decode cX10_requireCapacity 5 = .ok (.sipush 999, 3) := by decide +kernel
theorem dX10_requireCapacity_8 : decode cX10_requireCapacity 8 = .ok (.if_icmp .le 14, 3) := by decide +kernel
theorem dX10_requireCapacity_11 : decode cX10_requireCapacity 11 = .ok (.new 109, 3) := by decide +kernel
theorem dX10_requireCapacity_14 : decode cX10_requireCapacity 14 = .ok (.dup, 1) := by decide +kernel
theorem dX10_requireCapacity_15 : decode cX10_requireCapacity 15 = .ok (.ldc_w 436, 3) := by decide +kernel
theorem dX10_requireCapacity_18 : decode cX10_requireCapacity 18 = .ok (.invokespecial 113, 3) := by decide +kernel
theorem dX10_requireCapacity_21 : decode cX10_requireCapacity 21 = .ok (.athrow, 1) := by decide +kernel
theorem dX10_requireCapacity_22 : decode cX10_requireCapacity 22 = .ok (.return_, 1) := by decide +kernel
set_option maxRecDepth 20000 in
theorem ggX10_requireWeights_X10_requireValue : GoodIn wsX10_requireWeights wsX10_requireValue := goodIn_ca (goodIn_r _ [6, 1, 2] (by decide +kernel) (by decide +kernel)) (goodIn_sub (fun _ h => List.mem_cons_of_mem _ (List.mem_append_right _ h)) (by decide +kernel))
set_option maxRecDepth 20000 in
theorem gX10_requireWeights_X10_requireValue : GoodIn wsX10_requireWeights (va_wsS RX10 330 yX10_requireValue wsX10_requireValue) := goodIn_app (goodIn_of _ (by decide +kernel)) ggX10_requireWeights_X10_requireValue
theorem dX10_requireWeights_0 : decode cX10_requireWeights 0 = .ok (.iload_n 0, 1) := by decide +kernel
theorem dX10_requireWeights_1 : decode cX10_requireWeights 1 = .ok (.invokestatic 330, 3) := by decide +kernel
theorem dX10_requireWeights_4 : decode cX10_requireWeights 4 = .ok (.iload_n 1, 1) := by decide +kernel
theorem dX10_requireWeights_5 : decode cX10_requireWeights 5 = .ok (.invokestatic 330, 3) := by decide +kernel
theorem dX10_requireWeights_8 : decode cX10_requireWeights 8 = .ok (.iload_n 0, 1) := by decide +kernel
theorem dX10_requireWeights_9 : decode cX10_requireWeights 9 = .ok (.ifCond .ne 18, 3) := by decide +kernel
theorem dX10_requireWeights_12 : decode cX10_requireWeights 12 = .ok (.iload_n 1, 1) := by decide +kernel
theorem dX10_requireWeights_13 : decode cX10_requireWeights 13 = .ok (.ifCond .ne 14, 3) := by decide +kernel
theorem dX10_requireWeights_16 : decode cX10_requireWeights 16 = .ok (.new 109, 3) := by decide +kernel
theorem dX10_requireWeights_19 : decode cX10_requireWeights 19 = .ok (.dup, 1) := by decide +kernel
theorem dX10_requireWeights_20 : decode cX10_requireWeights 20 = .ok (.ldc_w 438, 3) := by decide +kernel
theorem dX10_requireWeights_23 : decode cX10_requireWeights 23 = .ok (.invokespecial 113, 3) := by decide +kernel
theorem dX10_requireWeights_26 : decode cX10_requireWeights 26 = .ok (.athrow, 1) := by decide +kernel
theorem dX10_requireWeights_27 : decode cX10_requireWeights 27 = .ok (.return_, 1) := by decide +kernel
theorem dX10_hasBit_0 : decode cX10_hasBit 0 = .ok (.iload_n 0, 1) := by decide +kernel
theorem dX10_hasBit_1 : decode cX10_hasBit 1 = .ok (.iload_n 1, 1) := by decide +kernel
theorem dX10_hasBit_2 : decode cX10_hasBit 2 = .ok (.ishr, 1) := by decide +kernel
theorem dX10_hasBit_3 : decode cX10_hasBit 3 = .ok (.iconst 1, 1) := by decide +kernel
theorem dX10_hasBit_4 : decode cX10_hasBit 4 = .ok (.iand, 1) := by decide +kernel
theorem dX10_hasBit_5 : decode cX10_hasBit 5 = .ok (.ifCond .eq 7, 3) := by decide +kernel
theorem dX10_hasBit_8 : decode cX10_hasBit 8 = .ok (.iconst 1, 1) := by decide +kernel
theorem dX10_hasBit_9 : decode cX10_hasBit 9 = .ok (.goto 4, 3) := by decide +kernel
theorem dX10_hasBit_12 : decode cX10_hasBit 12 = .ok (.iconst 0, 1) := by decide +kernel
theorem dX10_hasBit_13 : decode cX10_hasBit 13 = .ok (.ireturn, 1) := by decide +kernel
theorem dX10_withBit_0 : decode cX10_withBit 0 = .ok (.iload_n 2, 1) := by decide +kernel
theorem dX10_withBit_1 : decode cX10_withBit 1 = .ok (.ifCond .eq 11, 3) := by decide +kernel
theorem dX10_withBit_4 : decode cX10_withBit 4 = .ok (.iload_n 0, 1) := by decide +kernel
theorem dX10_withBit_5 : decode cX10_withBit 5 = .ok (.iconst 1, 1) := by decide +kernel
theorem dX10_withBit_6 : decode cX10_withBit 6 = .ok (.iload_n 1, 1) := by decide +kernel
theorem dX10_withBit_7 : decode cX10_withBit 7 = .ok (.ishl, 1) := by decide +kernel
theorem dX10_withBit_8 : decode cX10_withBit 8 = .ok (.ior, 1) := by decide +kernel
theorem dX10_withBit_9 : decode cX10_withBit 9 = .ok (.goto 10, 3) := by decide +kernel
theorem dX10_withBit_12 : decode cX10_withBit 12 = .ok (.iload_n 0, 1) := by decide +kernel
theorem dX10_withBit_13 : decode cX10_withBit 13 = .ok (.iconst 1, 1) := by decide +kernel
theorem dX10_withBit_14 : decode cX10_withBit 14 = .ok (.iload_n 1, 1) := by decide +kernel
theorem dX10_withBit_15 : decode cX10_withBit 15 = .ok (.ishl, 1) := by decide +kernel
theorem dX10_withBit_16 : decode cX10_withBit 16 = .ok (.iconst (-1), 1) := by decide +kernel
theorem dX10_withBit_17 : decode cX10_withBit 17 = .ok (.ixor, 1) := by decide +kernel
theorem dX10_withBit_18 : decode cX10_withBit 18 = .ok (.iand, 1) := by decide +kernel
theorem dX10_withBit_19 : decode cX10_withBit 19 = .ok (.ireturn, 1) := by decide +kernel
theorem dX11_thrown_0 : decode cX11_thrown 0 = .ok (.aload_n 0, 1) := by decide +kernel
theorem dX11_thrown_1 : decode cX11_thrown 1 = .ok (.getfield 3, 3) := by decide +kernel
theorem dX11_thrown_4 : decode cX11_thrown 4 = .ok (.ireturn, 1) := by decide +kernel
theorem dX11_in_0 : decode cX11_in 0 = .ok (.lload_n 0, 1) := by decide +kernel
theorem dX11_in_1 : decode cX11_in 1 = .ok (.lload_n 2, 1) := by decide +kernel
theorem dX11_in_2 : decode cX11_in 2 = .ok (.lcmp, 1) := by decide +kernel
theorem dX11_in_3 : decode cX11_in 3 = .ok (.ifCond .lt 14, 3) := by decide +kernel
theorem dX11_in_6 : decode cX11_in 6 = .ok (.lload_n 0, 1) := by decide +kernel
theorem dX11_in_7 : decode cX11_in 7 = .ok (.lload 4, 2) := by decide +kernel
theorem dX11_in_9 : decode cX11_in 9 = .ok (.lcmp, 1) := by decide +kernel
theorem dX11_in_10 : decode cX11_in 10 = .ok (.ifCond .gt 7, 3) := by decide +kernel
theorem dX11_in_13 : decode cX11_in 13 = .ok (.iconst 1, 1) := by decide +kernel
theorem dX11_in_14 : decode cX11_in 14 = .ok (.goto 4, 3) := by decide +kernel
theorem dX11_in_17 : decode cX11_in 17 = .ok (.iconst 0, 1) := by decide +kernel
theorem dX11_in_18 : decode cX11_in 18 = .ok (.ireturn, 1) := by decide +kernel
theorem dX11_has_0 : decode cX11_has 0 = .ok (.iload_n 0, 1) := by decide +kernel
theorem dX11_has_1 : decode cX11_has 1 = .ok (.iload_n 1, 1) := by decide +kernel
theorem dX11_has_2 : decode cX11_has 2 = .ok (.ishr, 1) := by decide +kernel
theorem dX11_has_3 : decode cX11_has 3 = .ok (.iconst 1, 1) := by decide +kernel
theorem dX11_has_4 : decode cX11_has 4 = .ok (.iand, 1) := by decide +kernel
theorem dX11_has_5 : decode cX11_has 5 = .ok (.iconst 1, 1) := by decide +kernel
theorem dX11_has_6 : decode cX11_has 6 = .ok (.if_icmp .ne 7, 3) := by decide +kernel
theorem dX11_has_9 : decode cX11_has 9 = .ok (.iconst 1, 1) := by decide +kernel
theorem dX11_has_10 : decode cX11_has 10 = .ok (.goto 4, 3) := by decide +kernel
theorem dX11_has_13 : decode cX11_has 13 = .ok (.iconst 0, 1) := by decide +kernel
theorem dX11_has_14 : decode cX11_has 14 = .ok (.ireturn, 1) := by decide +kernel
theorem dX11_bits_0 : decode cX11_bits 0 = .ok (.iconst 0, 1) := by decide +kernel
theorem dX11_bits_1 : decode cX11_bits 1 = .ok (.istore_n 1, 1) := by decide +kernel
theorem dX11_bits_2 : decode cX11_bits 2 = .ok (.iconst 0, 1) := by decide +kernel
theorem dX11_bits_3 : decode cX11_bits 3 = .ok (.istore_n 2, 1) := by decide +kernel
theorem dX11_bits_4 : decode cX11_bits 4 = .ok (.iload_n 2, 1) := by decide +kernel
theorem dX11_bits_5 : decode cX11_bits 5 = .ok (.bipush 12, 2) := by decide +kernel
theorem dX11_bits_7 : decode cX11_bits 7 = .ok (.if_icmp .ge 17, 3) := by decide +kernel
theorem dX11_bits_10 : decode cX11_bits 10 = .ok (.iload_n 1, 1) := by decide +kernel
theorem dX11_bits_11 : decode cX11_bits 11 = .ok (.iload_n 0, 1) := by decide +kernel
theorem dX11_bits_12 : decode cX11_bits 12 = .ok (.iload_n 2, 1) := by decide +kernel
theorem dX11_bits_13 : decode cX11_bits 13 = .ok (.ishr, 1) := by decide +kernel
theorem dX11_bits_14 : decode cX11_bits 14 = .ok (.iconst 1, 1) := by decide +kernel
theorem dX11_bits_15 : decode cX11_bits 15 = .ok (.iand, 1) := by decide +kernel
theorem dX11_bits_16 : decode cX11_bits 16 = .ok (.iadd, 1) := by decide +kernel
theorem dX11_bits_17 : decode cX11_bits 17 = .ok (.istore_n 1, 1) := by decide +kernel
theorem dX11_bits_18 : decode cX11_bits 18 = .ok (.iinc 2 1, 3) := by decide +kernel
theorem dX11_bits_21 : decode cX11_bits 21 = .ok (.goto (-17), 3) := by decide +kernel
theorem dX11_bits_24 : decode cX11_bits 24 = .ok (.iload_n 1, 1) := by decide +kernel
theorem dX11_bits_25 : decode cX11_bits 25 = .ok (.ireturn, 1) := by decide +kernel
theorem dX11_passes2_0 : decode cX11_passes2 0 = .ok (.aload_n 0, 1) := by decide +kernel
theorem dX11_passes2_1 : decode cX11_passes2 1 = .ok (.iload_n 1, 1) := by decide +kernel
theorem dX11_passes2_2 : decode cX11_passes2 2 = .ok (.ifCond .ne 7, 3) := by decide +kernel
theorem dX11_passes2_5 : decode cX11_passes2 5 = .ok (.iconst 1, 1) := by decide +kernel
theorem dX11_passes2_6 : decode cX11_passes2 6 = .ok (.goto 12, 3) := by decide +kernel
theorem dX11_passes2_9 : decode cX11_passes2 9 = .ok (.iload_n 2, 1) := by decide +kernel
theorem dX11_passes2_10 : decode cX11_passes2 10 = .ok (.ifCond .ne 7, 3) := by decide +kernel
theorem dX11_passes2_13 : decode cX11_passes2 13 = .ok (.iconst 2, 1) := by decide +kernel
theorem dX11_passes2_14 : decode cX11_passes2 14 = .ok (.goto 4, 3) := by decide +kernel
theorem dX11_passes2_17 : decode cX11_passes2 17 = .ok (.iconst 0, 1) := by decide +kernel
theorem dX11_passes2_18 : decode cX11_passes2 18 = .ok (.putfield 3, 3) := by decide +kernel
theorem dX11_passes2_21 : decode cX11_passes2 21 = .ok (.aload_n 0, 1) := by decide +kernel
theorem dX11_passes2_22 : decode cX11_passes2 22 = .ok (.getfield 3, 3) := by decide +kernel
theorem dX11_passes2_25 : decode cX11_passes2 25 = .ok (.ifCond .ne 7, 3) := by decide +kernel
theorem dX11_passes2_28 : decode cX11_passes2 28 = .ok (.iconst 1, 1) := by decide +kernel
theorem dX11_passes2_29 : decode cX11_passes2 29 = .ok (.goto 4, 3) := by decide +kernel
theorem dX11_passes2_32 : decode cX11_passes2 32 = .ok (.iconst 0, 1) := by decide +kernel
theorem dX11_passes2_33 : decode cX11_passes2 33 = .ok (.ireturn, 1) := by decide +kernel
set_option maxRecDepth 20000 in
theorem ggX11_passes_X11_passes2 : GoodIn wsX11_passes wsX11_passes2 := goodIn_r _ [5, 6, 7, 8, 9, 10, 11, 12, 13, 14, 15, 16, 17, 18, 19, 20, 21, 22, 23, 24, 25, 26, 27, 28, 29, 30, 31, 32, 33, 34, 35, 36, 37, 38, 39, 40, 41, 42, 43, 44, 45, 46] (by decide +kernel) (by decide +kernel)
set_option maxRecDepth 20000 in
theorem gX11_passes_X11_passes2 : GoodIn wsX11_passes (wsV RX11 7 RX11 yX11_passes2 wsX11_passes2) := goodIn_app (goodIn_of _ (by decide +kernel)) ggX11_passes_X11_passes2
theorem dX11_passes_0 : decode cX11_passes 0 = .ok (.aload_n 0, 1) := by decide +kernel
theorem dX11_passes_1 : decode cX11_passes 1 = .ok (.iload_n 1, 1) := by decide +kernel
theorem dX11_passes_2 : decode cX11_passes 2 = .ok (.iconst 1, 1) := by decide +kernel
theorem dX11_passes_3 : decode cX11_passes 3 = .ok (.invokevirtual 7, 3) := by decide +kernel
theorem dX11_passes_6 : decode cX11_passes 6 = .ok (.ireturn, 1) := by decide +kernel
theorem dX11_init_0 : decode cX11_init 0 = .ok (.aload_n 0, 1) := by decide +kernel
theorem dX11_init_1 : decode cX11_init 1 = .ok (.invokespecial 11, 3) := by decide +kernel
theorem dX11_init_4 : decode cX11_init 4 = .ok (.aload_n 0, 1) := by decide +kernel
theorem dX11_init_5 : decode cX11_init 5 = .ok (.bipush 66, 2) := by decide +kernel
theorem dX11_init_7 : decode cX11_init 7 = .ok (.newarray .int, 2) := by decide +kernel
theorem dX11_init_9 : decode cX11_init 9 = .ok (.putfield 17, 3) := by decide +kernel
theorem dX11_init_12 : decode cX11_init 12 = .ok (.aload_n 0, 1) := by decide +kernel
theorem dX11_init_13 : decode cX11_init 13 = .ok (.bipush 66, 2) := by decide +kernel
theorem dX11_init_15 : decode cX11_init 15 = .ok (.newarray .int, 2) := by decide +kernel
theorem dX11_init_17 : decode cX11_init 17 = .ok (.putfield 21, 3) := by decide +kernel
theorem dX11_init_20 : decode cX11_init 20 = .ok (.aload_n 0, 1) := by decide +kernel
theorem dX11_init_21 : decode cX11_init 21 = .ok (.aload_n 0, 1) := by decide +kernel
theorem dX11_init_22 : decode cX11_init 22 = .ok (.getfield 17, 3) := by decide +kernel
theorem dX11_init_25 : decode cX11_init 25 = .ok (.putfield 24, 3) := by decide +kernel
theorem dX11_init_28 : decode cX11_init 28 = .ok (.aload_n 0, 1) := by decide +kernel
theorem dX11_init_29 : decode cX11_init 29 = .ok (.sipush 1189, 3) := by decide +kernel
theorem dX11_init_32 : decode cX11_init 32 = .ok (.newarray .int, 2) := by decide +kernel
theorem dX11_init_34 : decode cX11_init 34 = .ok (.putfield 27, 3) := by decide +kernel
theorem dX11_init_37 : decode cX11_init 37 = .ok (.aload_n 0, 1) := by decide +kernel
theorem dX11_init_38 : decode cX11_init 38 = .ok (.sipush 1189, 3) := by decide +kernel
theorem dX11_init_41 : decode cX11_init 41 = .ok (.newarray .int, 2) := by decide +kernel
theorem dX11_init_43 : decode cX11_init 43 = .ok (.putfield 30, 3) := by decide +kernel
theorem dX11_init_46 : decode cX11_init 46 = .ok (.aload_n 0, 1) := by decide +kernel
theorem dX11_init_47 : decode cX11_init 47 = .ok (.sipush 1189, 3) := by decide +kernel
theorem dX11_init_50 : decode cX11_init 50 = .ok (.newarray .int, 2) := by decide +kernel
theorem dX11_init_52 : decode cX11_init 52 = .ok (.putfield 33, 3) := by decide +kernel
theorem dX11_init_55 : decode cX11_init 55 = .ok (.aload_n 0, 1) := by decide +kernel
theorem dX11_init_56 : decode cX11_init 56 = .ok (.sipush 1189, 3) := by decide +kernel
theorem dX11_init_59 : decode cX11_init 59 = .ok (.newarray .int, 2) := by decide +kernel
theorem dX11_init_61 : decode cX11_init 61 = .ok (.putfield 36, 3) := by decide +kernel
theorem dX11_init_64 : decode cX11_init 64 = .ok (.aload_n 0, 1) := by decide +kernel
theorem dX11_init_65 : decode cX11_init 65 = .ok (.sipush 1189, 3) := by decide +kernel
theorem dX11_init_68 : decode cX11_init 68 = .ok (.newarray .int, 2) := by decide +kernel
theorem dX11_init_70 : decode cX11_init 70 = .ok (.putfield 39, 3) := by decide +kernel
theorem dX11_init_73 : decode cX11_init 73 = .ok (.aload_n 0, 1) := by decide +kernel
theorem dX11_init_74 : decode cX11_init 74 = .ok (.sipush 1189, 3) := by decide +kernel
theorem dX11_init_77 : decode cX11_init 77 = .ok (.newarray .int, 2) := by decide +kernel
theorem dX11_init_79 : decode cX11_init 79 = .ok (.putfield 42, 3) := by decide +kernel
theorem dX11_init_82 : decode cX11_init 82 = .ok (.aload_n 0, 1) := by decide +kernel
theorem dX11_init_83 : decode cX11_init 83 = .ok (.sipush 1189, 3) := by decide +kernel
theorem dX11_init_86 : decode cX11_init 86 = .ok (.newarray .int, 2) := by decide +kernel
theorem dX11_init_88 : decode cX11_init 88 = .ok (.putfield 45, 3) := by decide +kernel
theorem dX11_init_91 : decode cX11_init 91 = .ok (.aload_n 0, 1) := by decide +kernel
theorem dX11_init_92 : decode cX11_init 92 = .ok (.sipush 1189, 3) := by decide +kernel
theorem dX11_init_95 : decode cX11_init 95 = .ok (.newarray .int, 2) := by decide +kernel
theorem dX11_init_97 : decode cX11_init 97 = .ok (.putfield 48, 3) := by decide +kernel
theorem dX11_init_100 : decode cX11_init 100 = .ok (.aload_n 0, 1) := by decide +kernel
theorem dX11_init_101 : decode cX11_init 101 = .ok (.sipush 7134, 3) := by decide +kernel
theorem dX11_init_104 : decode cX11_init 104 = .ok (.newarray .int, 2) := by decide +kernel
theorem dX11_init_106 : decode cX11_init 106 = .ok (.putfield 51, 3) := by decide +kernel
theorem dX11_init_109 : decode cX11_init 109 = .ok (.aload_n 0, 1) := by decide +kernel
theorem dX11_init_110 : decode cX11_init 110 = .ok (.sipush 4096, 3) := by decide +kernel
theorem dX11_init_113 : decode cX11_init 113 = .ok (.newarray .int, 2) := by decide +kernel
theorem dX11_init_115 : decode cX11_init 115 = .ok (.putfield 54, 3) := by decide +kernel
theorem dX11_init_118 : decode cX11_init 118 = .ok (.aload_n 0, 1) := by decide +kernel
theorem dX11_init_119 : decode cX11_init 119 = .ok (.sipush 4096, 3) := by decide +kernel
theorem dX11_init_122 : decode cX11_init 122 = .ok (.newarray .int, 2) := by decide +kernel
theorem dX11_init_124 : decode cX11_init 124 = .ok (.putfield 57, 3) := by decide +kernel
theorem dX11_init_127 : decode cX11_init 127 = .ok (.aload_n 0, 1) := by decide +kernel
theorem dX11_init_128 : decode cX11_init 128 = .ok (.sipush 4096, 3) := by decide +kernel
theorem dX11_init_131 : decode cX11_init 131 = .ok (.newarray .int, 2) := by decide +kernel
theorem dX11_init_133 : decode cX11_init 133 = .ok (.putfield 60, 3) := by decide +kernel
theorem dX11_init_136 : decode cX11_init 136 = .ok (.aload_n 0, 1) := by decide +kernel
theorem dX11_init_137 : decode cX11_init 137 = .ok (.sipush 600, 3) := by decide +kernel
theorem dX11_init_140 : decode cX11_init 140 = .ok (.newarray .byte, 2) := by decide +kernel
theorem dX11_init_142 : decode cX11_init 142 = .ok (.putfield 63, 3) := by decide +kernel
theorem dX11_init_145 : decode cX11_init 145 = .ok (.aload_n 0, 1) := by decide +kernel
theorem dX11_init_146 : decode cX11_init 146 = .ok (.iconst (-1), 1) := by decide +kernel
theorem dX11_init_147 : decode cX11_init 147 = .ok (.putfield 67, 3) := by decide +kernel
theorem dX11_init_150 : decode cX11_init 150 = .ok (.aload_n 0, 1) := by decide +kernel
theorem dX11_init_151 : decode cX11_init 151 = .ok (.sipush 132, 3) := by decide +kernel
theorem dX11_init_154 : decode cX11_init 154 = .ok (.newarray .int, 2) := by decide +kernel
theorem dX11_init_156 : decode cX11_init 156 = .ok (.putfield 70, 3) := by decide +kernel
theorem dX11_init_159 : decode cX11_init 159 = .ok (.aload_n 0, 1) := by decide +kernel
theorem dX11_init_160 : decode cX11_init 160 = .ok (.iconst 2, 1) := by decide +kernel
theorem dX11_init_161 : decode cX11_init 161 = .ok (.newarray .boolean, 2) := by decide +kernel
theorem dX11_init_163 : decode cX11_init 163 = .ok (.putfield 73, 3) := by decide +kernel
theorem dX11_init_166 : decode cX11_init 166 = .ok (.aload_n 0, 1) := by decide +kernel
theorem dX11_init_167 : decode cX11_init 167 = .ok (.sipush 528, 3) := by decide +kernel
theorem dX11_init_170 : decode cX11_init 170 = .ok (.newarray .int, 2) := by decide +kernel
theorem dX11_init_172 : decode cX11_init 172 = .ok (.putfield 77, 3) := by decide +kernel
theorem dX11_init_175 : decode cX11_init 175 = .ok (.aload_n 0, 1) := by decide +kernel
theorem dX11_init_176 : decode cX11_init 176 = .ok (.sipush 16000, 3) := by decide +kernel
theorem dX11_init_179 : decode cX11_init 179 = .ok (.newarray .byte, 2) := by decide +kernel
theorem dX11_init_181 : decode cX11_init 181 = .ok (.putfield 80, 3) := by decide +kernel
theorem dX11_init_184 : decode cX11_init 184 = .ok (.aload_n 0, 1) := by decide +kernel
theorem dX11_init_185 : decode cX11_init 185 = .ok (.getfield 17, 3) := by decide +kernel
theorem dX11_init_188 : decode cX11_init 188 = .ok (.iconst 1, 1) := by decide +kernel
theorem dX11_init_189 : decode cX11_init 189 = .ok (.bipush 20, 2) := by decide +kernel
theorem dX11_init_191 : decode cX11_init 191 = .ok (.iastore, 1) := by decide +kernel
theorem dX11_init_192 : decode cX11_init 192 = .ok (.aload_n 0, 1) := by decide +kernel
theorem dX11_init_193 : decode cX11_init 193 = .ok (.getfield 17, 3) := by decide +kernel
theorem dX11_init_196 : decode cX11_init 196 = .ok (.iconst 2, 1) := by decide +kernel
theorem dX11_init_197 : decode cX11_init 197 = .ok (.bipush 12, 2) := by decide +kernel
theorem dX11_init_199 : decode cX11_init 199 = .ok (.iastore, 1) := by decide +kernel
theorem dX11_init_200 : decode cX11_init 200 = .ok (.return_, 1) := by decide +kernel
theorem dX11_many_0 : decode cX11_many 0 = .ok (.aload_n 0, 1) := by decide +kernel
theorem dX11_many_1 : decode cX11_many 1 = .ok (.getfield 24, 3) := by decide +kernel
theorem dX11_many_4 : decode cX11_many 4 = .ok (.iconst 0, 1) := by decide +kernel
theorem dX11_many_5 : decode cX11_many 5 = .ok (.iaload, 1) := by decide +kernel
theorem dX11_many_6 : decode cX11_many 6 = .ok (.ireturn, 1) := by decide +kernel
theorem dX11_ofItem_0 : decode cX11_ofItem 0 = .ok (.aload_n 0, 1) := by decide +kernel
theorem dX11_ofItem_1 : decode cX11_ofItem 1 = .ok (.getfield 24, 3) := by decide +kernel
theorem dX11_ofItem_4 : decode cX11_ofItem 4 = .ok (.bipush 6, 2) := by decide +kernel
theorem dX11_ofItem_6 : decode cX11_ofItem 6 = .ok (.iconst 5, 1) := by decide +kernel
theorem dX11_ofItem_7 : decode cX11_ofItem 7 = .ok (.iload_n 1, 1) := by decide +kernel
theorem dX11_ofItem_8 : decode cX11_ofItem 8 = .ok (.imul, 1) := by decide +kernel
theorem dX11_ofItem_9 : decode cX11_ofItem 9 = .ok (.iadd, 1) := by decide +kernel
theorem dX11_ofItem_10 : decode cX11_ofItem 10 = .ok (.iload_n 2, 1) := by decide +kernel
theorem dX11_ofItem_11 : decode cX11_ofItem 11 = .ok (.iadd, 1) := by decide +kernel
theorem dX11_ofItem_12 : decode cX11_ofItem 12 = .ok (.iaload, 1) := by decide +kernel
theorem dX11_ofItem_13 : decode cX11_ofItem 13 = .ok (.ireturn, 1) := by decide +kernel
theorem dX11_put_0 : decode cX11_put 0 = .ok (.aload_n 0, 1) := by decide +kernel
theorem dX11_put_1 : decode cX11_put 1 = .ok (.getfield 24, 3) := by decide +kernel
theorem dX11_put_4 : decode cX11_put 4 = .ok (.bipush 6, 2) := by decide +kernel
theorem dX11_put_6 : decode cX11_put 6 = .ok (.iconst 5, 1) := by decide +kernel
theorem dX11_put_7 : decode cX11_put 7 = .ok (.iload_n 1, 1) := by decide +kernel
theorem dX11_put_8 : decode cX11_put 8 = .ok (.imul, 1) := by decide +kernel
theorem dX11_put_9 : decode cX11_put 9 = .ok (.iadd, 1) := by decide +kernel
theorem dX11_put_10 : decode cX11_put 10 = .ok (.iload_n 2, 1) := by decide +kernel
theorem dX11_put_11 : decode cX11_put 11 = .ok (.iadd, 1) := by decide +kernel
theorem dX11_put_12 : decode cX11_put 12 = .ok (.iload_n 3, 1) := by decide +kernel
theorem dX11_put_13 : decode cX11_put 13 = .ok (.iastore, 1) := by decide +kernel
theorem dX11_put_14 : decode cX11_put 14 = .ok (.return_, 1) := by decide +kernel
set_option maxRecDepth 20000 in
theorem ggX11_isItem_X11_many : GoodIn wsX11_isItem wsX11_many := goodIn_r _ [5, 6, 10, 11, 12, 13, 14, 15, 16, 17, 18, 19, 20, 21, 22, 23, 24, 25, 26, 27, 28, 29, 30, 31, 32, 33, 34, 35, 36, 37, 38, 39, 40, 41, 42, 43, 44, 45, 46, 47, 48, 49] (by decide +kernel) (by decide +kernel)
set_option maxRecDepth 20000 in
theorem gX11_isItem_X11_many : GoodIn wsX11_isItem (wsV RX11 83 RX11 yX11_many wsX11_many) := goodIn_app (goodIn_of _ (by decide +kernel)) ggX11_isItem_X11_many
set_option maxRecDepth 20000 in
theorem ggX11_isItem_X11_in : GoodIn wsX11_isItem wsX11_in := goodIn_r _ [9] (by decide +kernel) (by decide +kernel)
set_option maxRecDepth 20000 in
theorem gX11_isItem_X11_in : GoodIn wsX11_isItem (va_wsS RX11 87 yX11_in wsX11_in) := goodIn_app (goodIn_of _ (by decide +kernel)) ggX11_isItem_X11_in
theorem dX11_isItem_0 : decode cX11_isItem 0 = .ok (.iload_n 1, 1) := by decide +kernel
theorem dX11_isItem_1 : decode cX11_isItem 1 = .ok (.i2l, 1) := by decide +kernel
theorem dX11_isItem_2 : decode cX11_isItem 2 = .ok (.lconst 0, 1) := by decide +kernel
theorem dX11_isItem_3 : decode cX11_isItem 3 = .ok (.aload_n 0, 1) := by decide +kernel
theorem dX11_isItem_4 : decode cX11_isItem 4 = .ok (.invokevirtual 83, 3) := by decide +kernel
theorem dX11_isItem_7 : decode cX11_isItem 7 = .ok (.iconst 1, 1) := by decide +kernel
theorem dX11_isItem_8 : decode cX11_isItem 8 = .ok (.isub, 1) := by decide +kernel
theorem dX11_isItem_9 : decode cX11_isItem 9 = .ok (.i2l, 1) := by decide +kernel
theorem dX11_isItem_10 : decode cX11_isItem 10 = .ok (.invokestatic 87, 3) := by decide +kernel
theorem dX11_isItem_13 : decode cX11_isItem 13 = .ok (.ireturn, 1) := by decide +kernel
set_option maxRecDepth 20000 in
theorem ggX11_allSets_X11_many : GoodIn wsX11_allSets wsX11_many := goodIn_r _ [5, 6, 7, 8, 9, 10, 11, 12, 13, 14, 15, 16, 17, 18, 19, 20, 21, 22, 23, 24, 25, 26, 27, 28, 29, 30, 31, 32, 33, 34, 35, 36, 37, 38, 39, 40, 41, 42, 43, 44, 45, 46] (by decide +kernel) (by decide +kernel)
set_option maxRecDepth 20000 in
theorem gX11_allSets_X11_many : GoodIn wsX11_allSets (wsV RX11 83 RX11 yX11_many wsX11_many) := goodIn_app (goodIn_of _ (by decide +kernel)) ggX11_allSets_X11_many
theorem dX11_allSets_0 : decode cX11_allSets 0 = .ok (.iconst 1, 1) := by decide +kernel
theorem dX11_allSets_1 : decode cX11_allSets 1 = .ok (.aload_n 0, 1) := by decide +kernel
theorem dX11_allSets_2 : decode cX11_allSets 2 = .ok (.invokevirtual 83, 3) := by decide +kernel
theorem dX11_allSets_5 : decode cX11_allSets 5 = .ok (.ishl, 1) := by decide +kernel
theorem dX11_allSets_6 : decode cX11_allSets 6 = .ok (.ireturn, 1) := by decide +kernel
set_option maxRecDepth 20000 in
theorem ggX11_isSet_X11_allSets : GoodIn wsX11_isSet wsX11_allSets := goodIn_r _ [5, 6, 7, 8, 4, 9, 10, 14, 15, 16, 17, 18, 19, 20, 21, 22, 23, 24, 25, 26, 27, 28, 29, 30, 31, 32, 33, 34, 35, 36, 37, 38, 39, 40, 41, 42, 43, 44, 45, 46, 47, 48, 49, 50, 51, 52, 53] (by decide +kernel) (by decide +kernel)
set_option maxRecDepth 20000 in
theorem gX11_isSet_X11_allSets : GoodIn wsX11_isSet (wsV RX11 91 RX11 yX11_allSets wsX11_allSets) := goodIn_app (goodIn_of _ (by decide +kernel)) ggX11_isSet_X11_allSets
set_option maxRecDepth 20000 in
theorem ggX11_isSet_X11_in : GoodIn wsX11_isSet wsX11_in := goodIn_r _ [13] (by decide +kernel) (by decide +kernel)
set_option maxRecDepth 20000 in
theorem gX11_isSet_X11_in : GoodIn wsX11_isSet (va_wsS RX11 87 yX11_in wsX11_in) := goodIn_app (goodIn_of _ (by decide +kernel)) ggX11_isSet_X11_in
theorem dX11_isSet_0 : decode cX11_isSet 0 = .ok (.iload_n 1, 1) := by decide +kernel
theorem dX11_isSet_1 : decode cX11_isSet 1 = .ok (.i2l, 1) := by decide +kernel
theorem dX11_isSet_2 : decode cX11_isSet 2 = .ok (.lconst 0, 1) := by decide +kernel
theorem dX11_isSet_3 : decode cX11_isSet 3 = .ok (.aload_n 0, 1) := by decide +kernel
theorem dX11_isSet_4 : decode cX11_isSet 4 = .ok (.invokevirtual 91, 3) := by decide +kernel
theorem dX11_isSet_7 : decode cX11_isSet 7 = .ok (.iconst 1, 1) := by decide +kernel
theorem dX11_isSet_8 : decode cX11_isSet 8 = .ok (.isub, 1) := by decide +kernel
theorem dX11_isSet_9 : decode cX11_isSet 9 = .ok (.i2l, 1) := by decide +kernel
theorem dX11_isSet_10 : decode cX11_isSet 10 = .ok (.invokestatic 87, 3) := by decide +kernel
theorem dX11_isSet_13 : decode cX11_isSet 13 = .ok (.ireturn, 1) := by decide +kernel
set_option maxRecDepth 20000 in
theorem ggX11_sumOf_X11_many : GoodIn wsX11_sumOf wsX11_many := goodIn_r _ [5, 6, 14, 15, 16, 17, 18, 19, 20, 21, 22, 23, 24, 25, 26, 27, 28, 29, 30, 31, 32, 33, 34, 35, 36, 37, 38, 39, 40, 41, 42, 43, 44, 45, 46, 47, 48, 49, 50, 51, 52, 53] (by decide +kernel) (by decide +kernel)
set_option maxRecDepth 20000 in
theorem gX11_sumOf_X11_many : GoodIn wsX11_sumOf (wsV RX11 83 RX11 yX11_many wsX11_many) := goodIn_app (goodIn_of _ (by decide +kernel)) ggX11_sumOf_X11_many
set_option maxRecDepth 20000 in
theorem ggX11_sumOf_X11_has : GoodIn wsX11_sumOf wsX11_has := goodIn_r _ [9] (by decide +kernel) (by decide +kernel)
set_option maxRecDepth 20000 in
theorem gX11_sumOf_X11_has : GoodIn wsX11_sumOf (va_wsS RX11 94 yX11_has wsX11_has) := goodIn_app (goodIn_of _ (by decide +kernel)) ggX11_sumOf_X11_has
set_option maxRecDepth 20000 in
theorem ggX11_sumOf_X11_ofItem : GoodIn wsX11_sumOf wsX11_ofItem := goodIn_r _ [13, 6, 14, 15, 16, 17, 18, 19, 20, 21, 22, 23, 24, 25, 26, 27, 28, 29, 30, 31, 32, 33, 34, 35, 36, 37, 38, 39, 40, 41, 42, 43, 44, 45, 46, 47, 48, 49, 50, 51, 52, 53] (by decide +kernel) (by decide +kernel)
set_option maxRecDepth 20000 in
theorem gX11_sumOf_X11_ofItem : GoodIn wsX11_sumOf (wsV RX11 98 RX11 yX11_ofItem wsX11_ofItem) := goodIn_app (goodIn_of _ (by decide +kernel)) ggX11_sumOf_X11_ofItem
theorem dX11_sumOf_0 : decode cX11_sumOf 0 = .ok (.iconst 0, 1) := by decide +kernel
theorem dX11_sumOf_1 : decode cX11_sumOf 1 = .ok (.istore_n 3, 1) := by decide +kernel
theorem dX11_sumOf_2 : decode cX11_sumOf 2 = .ok (.iconst 0, 1) := by decide +kernel
theorem dX11_sumOf_3 : decode cX11_sumOf 3 = .ok (.istore 4, 2) := by decide +kernel
theorem dX11_sumOf_5 : decode cX11_sumOf 5 = .ok (.iload 4, 2) := by decide +kernel
theorem dX11_sumOf_7 : decode cX11_sumOf 7 = .ok (.aload_n 0, 1) := by decide +kernel
theorem dX11_sumOf_8 : decode cX11_sumOf 8 = .ok (.invokevirtual 83, 3) := by decide +kernel
theorem dX11_sumOf_11 : decode cX11_sumOf 11 = .ok (.if_icmp .ge 32, 3) := by decide +kernel
theorem dX11_sumOf_14 : decode cX11_sumOf 14 = .ok (.iload_n 3, 1) := by decide +kernel
theorem dX11_sumOf_15 : decode cX11_sumOf 15 = .ok (.iload_n 1, 1) := by decide +kernel
theorem dX11_sumOf_16 : decode cX11_sumOf 16 = .ok (.iload 4, 2) := by decide +kernel
theorem dX11_sumOf_18 : decode cX11_sumOf 18 = .ok (.invokestatic 94, 3) := by decide +kernel
theorem dX11_sumOf_21 : decode cX11_sumOf 21 = .ok (.ifCond .eq 13, 3) := by decide +kernel
theorem dX11_sumOf_24 : decode cX11_sumOf 24 = .ok (.aload_n 0, 1) := by decide +kernel
theorem dX11_sumOf_25 : decode cX11_sumOf 25 = .ok (.iload 4, 2) := by decide +kernel
theorem dX11_sumOf_27 : decode cX11_sumOf 27 = .ok (.iload_n 2, 1) := by decide +kernel
theorem dX11_sumOf_28 : decode cX11_sumOf 28 = .ok (.invokevirtual 98, 3) := by decide +kernel
theorem dX11_sumOf_31 : decode cX11_sumOf 31 = .ok (.goto 4, 3) := by decide +kernel
theorem dX11_sumOf_34 : decode cX11_sumOf 34 = .ok (.iconst 0, 1) := by decide +kernel
theorem dX11_sumOf_35 : decode cX11_sumOf 35 = .ok (.iadd, 1) := by decide +kernel
theorem dX11_sumOf_36 : decode cX11_sumOf 36 = .ok (.istore_n 3, 1) := by decide +kernel
theorem dX11_sumOf_37 : decode cX11_sumOf 37 = .ok (.iinc 4 1, 3) := by decide +kernel
theorem dX11_sumOf_40 : decode cX11_sumOf 40 = .ok (.goto (-35), 3) := by decide +kernel
theorem dX11_sumOf_43 : decode cX11_sumOf 43 = .ok (.iload_n 3, 1) := by decide +kernel
theorem dX11_sumOf_44 : decode cX11_sumOf 44 = .ok (.ireturn, 1) := by decide +kernel
set_option maxRecDepth 20000 in
theorem ggX11_isBarred_X11_many : GoodIn wsX11_isBarred wsX11_many := goodIn_r _ [5, 6, 14, 15, 16, 17, 18, 19, 20, 21, 22, 23, 24, 25, 26, 27, 28, 29, 30, 31, 32, 33, 34, 35, 36, 37, 38, 39, 40, 41, 42, 43, 44, 45, 46, 47, 48, 49, 50, 51, 52, 53] (by decide +kernel) (by decide +kernel)
set_option maxRecDepth 20000 in
theorem gX11_isBarred_X11_many : GoodIn wsX11_isBarred (wsV RX11 83 RX11 yX11_many wsX11_many) := goodIn_app (goodIn_of _ (by decide +kernel)) ggX11_isBarred_X11_many
set_option maxRecDepth 20000 in
theorem ggX11_isBarred_X11_has : GoodIn wsX11_isBarred wsX11_has := goodIn_r _ [9] (by decide +kernel) (by decide +kernel)
set_option maxRecDepth 20000 in
theorem gX11_isBarred_X11_has : GoodIn wsX11_isBarred (va_wsS RX11 94 yX11_has wsX11_has) := goodIn_app (goodIn_of _ (by decide +kernel)) ggX11_isBarred_X11_has
set_option maxRecDepth 20000 in
theorem ggX11_isBarred_X11_ofItem : GoodIn wsX11_isBarred wsX11_ofItem := goodIn_r _ [13, 6, 14, 15, 16, 17, 18, 19, 20, 21, 22, 23, 24, 25, 26, 27, 28, 29, 30, 31, 32, 33, 34, 35, 36, 37, 38, 39, 40, 41, 42, 43, 44, 45, 46, 47, 48, 49, 50, 51, 52, 53] (by decide +kernel) (by decide +kernel)
set_option maxRecDepth 20000 in
theorem gX11_isBarred_X11_ofItem : GoodIn wsX11_isBarred (wsV RX11 98 RX11 yX11_ofItem wsX11_ofItem) := goodIn_app (goodIn_of _ (by decide +kernel)) ggX11_isBarred_X11_ofItem
theorem dX11_isBarred_0 : decode cX11_isBarred 0 = .ok (.iconst 0, 1) := by decide +kernel
theorem dX11_isBarred_1 : decode cX11_isBarred 1 = .ok (.istore_n 2, 1) := by decide +kernel
theorem dX11_isBarred_2 : decode cX11_isBarred 2 = .ok (.iload_n 2, 1) := by decide +kernel
theorem dX11_isBarred_3 : decode cX11_isBarred 3 = .ok (.aload_n 0, 1) := by decide +kernel
theorem dX11_isBarred_4 : decode cX11_isBarred 4 = .ok (.invokevirtual 83, 3) := by decide +kernel
theorem dX11_isBarred_7 : decode cX11_isBarred 7 = .ok (.if_icmp .ge 30, 3) := by decide +kernel
theorem dX11_isBarred_10 : decode cX11_isBarred 10 = .ok (.iload_n 1, 1) := by decide +kernel
theorem dX11_isBarred_11 : decode cX11_isBarred 11 = .ok (.iload_n 2, 1) := by decide +kernel
theorem dX11_isBarred_12 : decode cX11_isBarred 12 = .ok (.invokestatic 94, 3) := by decide +kernel
theorem dX11_isBarred_15 : decode cX11_isBarred 15 = .ok (.ifCond .eq 16, 3) := by decide +kernel
theorem dX11_isBarred_18 : decode cX11_isBarred 18 = .ok (.aload_n 0, 1) := by decide +kernel
theorem dX11_isBarred_19 : decode cX11_isBarred 19 = .ok (.iload_n 2, 1) := by decide +kernel
theorem dX11_isBarred_20 : decode cX11_isBarred 20 = .ok (.iconst 3, 1) := by decide +kernel
theorem dX11_isBarred_21 : decode cX11_isBarred 21 = .ok (.invokevirtual 98, 3) := by decide +kernel
theorem dX11_isBarred_24 : decode cX11_isBarred 24 = .ok (.iload_n 1, 1) := by decide +kernel
theorem dX11_isBarred_25 : decode cX11_isBarred 25 = .ok (.iand, 1) := by decide +kernel
theorem dX11_isBarred_26 : decode cX11_isBarred 26 = .ok (.ifCond .eq 5, 3) := by decide +kernel
theorem dX11_isBarred_29 : decode cX11_isBarred 29 = .ok (.iconst 1, 1) := by decide +kernel
theorem dX11_isBarred_30 : decode cX11_isBarred 30 = .ok (.ireturn, 1) := by decide +kernel
theorem dX11_isBarred_31 : decode cX11_isBarred 31 = .ok (.iinc 2 1, 3) := by decide +kernel
theorem dX11_isBarred_34 : decode cX11_isBarred 34 = .ok (.goto (-32), 3) := by decide +kernel
theorem dX11_isBarred_37 : decode cX11_isBarred 37 = .ok (.iconst 0, 1) := by decide +kernel
theorem dX11_isBarred_38 : decode cX11_isBarred 38 = .ok (.ireturn, 1) := by decide +kernel
set_option maxRecDepth 20000 in
theorem ggX11_doesLack_X11_many : GoodIn wsX11_doesLack wsX11_many := goodIn_r _ [5, 6, 14, 15, 16, 17, 18, 19, 20, 21, 22, 23, 24, 25, 26, 27, 28, 29, 30, 31, 32, 33, 34, 35, 36, 37, 38, 39, 40, 41, 42, 43, 44, 45, 46, 47, 48, 49, 50, 51, 52, 53] (by decide +kernel) (by decide +kernel)
set_option maxRecDepth 20000 in
theorem gX11_doesLack_X11_many : GoodIn wsX11_doesLack (wsV RX11 83 RX11 yX11_many wsX11_many) := goodIn_app (goodIn_of _ (by decide +kernel)) ggX11_doesLack_X11_many
set_option maxRecDepth 20000 in
theorem ggX11_doesLack_X11_has : GoodIn wsX11_doesLack wsX11_has := goodIn_r _ [9] (by decide +kernel) (by decide +kernel)
set_option maxRecDepth 20000 in
theorem gX11_doesLack_X11_has : GoodIn wsX11_doesLack (va_wsS RX11 94 yX11_has wsX11_has) := goodIn_app (goodIn_of _ (by decide +kernel)) ggX11_doesLack_X11_has
set_option maxRecDepth 20000 in
theorem ggX11_doesLack_X11_ofItem : GoodIn wsX11_doesLack wsX11_ofItem := goodIn_r _ [13, 6, 14, 15, 16, 17, 18, 19, 20, 21, 22, 23, 24, 25, 26, 27, 28, 29, 30, 31, 32, 33, 34, 35, 36, 37, 38, 39, 40, 41, 42, 43, 44, 45, 46, 47, 48, 49, 50, 51, 52, 53] (by decide +kernel) (by decide +kernel)
set_option maxRecDepth 20000 in
theorem gX11_doesLack_X11_ofItem : GoodIn wsX11_doesLack (wsV RX11 98 RX11 yX11_ofItem wsX11_ofItem) := goodIn_app (goodIn_of _ (by decide +kernel)) ggX11_doesLack_X11_ofItem
theorem dX11_doesLack_0 : decode cX11_doesLack 0 = .ok (.iconst 0, 1) := by decide +kernel
theorem dX11_doesLack_1 : decode cX11_doesLack 1 = .ok (.istore_n 2, 1) := by decide +kernel
theorem dX11_doesLack_2 : decode cX11_doesLack 2 = .ok (.iload_n 2, 1) := by decide +kernel
theorem dX11_doesLack_3 : decode cX11_doesLack 3 = .ok (.aload_n 0, 1) := by decide +kernel
theorem dX11_doesLack_4 : decode cX11_doesLack 4 = .ok (.invokevirtual 83, 3) := by decide +kernel
theorem dX11_doesLack_7 : decode cX11_doesLack 7 = .ok (.if_icmp .ge 32, 3) := by decide +kernel
theorem dX11_doesLack_10 : decode cX11_doesLack 10 = .ok (.iload_n 1, 1) := by decide +kernel
theorem dX11_doesLack_11 : decode cX11_doesLack 11 = .ok (.iload_n 2, 1) := by decide +kernel
theorem dX11_doesLack_12 : decode cX11_doesLack 12 = .ok (.invokestatic 94, 3) := by decide +kernel
theorem dX11_doesLack_15 : decode cX11_doesLack 15 = .ok (.ifCond .eq 18, 3) := by decide +kernel
theorem dX11_doesLack_18 : decode cX11_doesLack 18 = .ok (.aload_n 0, 1) := by decide +kernel
theorem dX11_doesLack_19 : decode cX11_doesLack 19 = .ok (.iload_n 2, 1) := by decide +kernel
theorem dX11_doesLack_20 : decode cX11_doesLack 20 = .ok (.iconst 4, 1) := by decide +kernel
theorem dX11_doesLack_21 : decode cX11_doesLack 21 = .ok (.invokevirtual 98, 3) := by decide +kernel
theorem dX11_doesLack_24 : decode cX11_doesLack 24 = .ok (.iload_n 1, 1) := by decide +kernel
theorem dX11_doesLack_25 : decode cX11_doesLack 25 = .ok (.iconst (-1), 1) := by decide +kernel
theorem dX11_doesLack_26 : decode cX11_doesLack 26 = .ok (.ixor, 1) := by decide +kernel
theorem dX11_doesLack_27 : decode cX11_doesLack 27 = .ok (.iand, 1) := by decide +kernel
theorem dX11_doesLack_28 : decode cX11_doesLack 28 = .ok (.ifCond .eq 5, 3) := by decide +kernel
theorem dX11_doesLack_31 : decode cX11_doesLack 31 = .ok (.iconst 1, 1) := by decide +kernel
theorem dX11_doesLack_32 : decode cX11_doesLack 32 = .ok (.ireturn, 1) := by decide +kernel
theorem dX11_doesLack_33 : decode cX11_doesLack 33 = .ok (.iinc 2 1, 3) := by decide +kernel
theorem dX11_doesLack_36 : decode cX11_doesLack 36 = .ok (.goto (-34), 3) := by decide +kernel
theorem dX11_doesLack_39 : decode cX11_doesLack 39 = .ok (.iconst 0, 1) := by decide +kernel
theorem dX11_doesLack_40 : decode cX11_doesLack 40 = .ok (.ireturn, 1) := by decide +kernel
set_option maxRecDepth 20000 in
theorem ggX11_refusalOf_X11_sumOf : GoodIn wsX11_refusalOf wsX11_sumOf := goodIn_r _ [6, 7, 8, 9, 5, 10, 1, 11, 12, 13, 14, 15, 16, 17, 29, 30, 31, 32, 33, 34, 35, 36, 37, 38, 39, 40, 41, 42, 43, 44, 45, 46, 47, 48, 49, 50, 51, 52, 53, 54, 55, 56, 57, 58, 59, 60, 61, 62, 63, 64, 65, 66, 67, 68] (by decide +kernel) (by decide +kernel)
set_option maxRecDepth 20000 in
theorem gX11_refusalOf_X11_sumOf : GoodIn wsX11_refusalOf (wsV RX11 102 RX11 yX11_sumOf wsX11_sumOf) := goodIn_app (goodIn_of _ (by decide +kernel)) ggX11_refusalOf_X11_sumOf
set_option maxRecDepth 20000 in
theorem ggX11_refusalOf_X11_bits : GoodIn wsX11_refusalOf wsX11_bits := goodIn_r _ [20] (by decide +kernel) (by decide +kernel)
set_option maxRecDepth 20000 in
theorem gX11_refusalOf_X11_bits : GoodIn wsX11_refusalOf (va_wsS RX11 105 yX11_bits wsX11_bits) := goodIn_app (goodIn_of _ (by decide +kernel)) ggX11_refusalOf_X11_bits
set_option maxRecDepth 20000 in
theorem ggX11_refusalOf_X11_isBarred : GoodIn wsX11_refusalOf wsX11_isBarred := goodIn_r _ [24, 7, 8, 9, 5, 10, 1, 11, 12, 13, 14, 15, 16, 17, 29, 30, 31, 32, 33, 34, 35, 36, 37, 38, 39, 40, 41, 42, 43, 44, 45, 46, 47, 48, 49, 50, 51, 52, 53, 54, 55, 56, 57, 58, 59, 60, 61, 62, 63, 64, 65, 66, 67, 68] (by decide +kernel) (by decide +kernel)
set_option maxRecDepth 20000 in
theorem gX11_refusalOf_X11_isBarred : GoodIn wsX11_refusalOf (wsV RX11 109 RX11 yX11_isBarred wsX11_isBarred) := goodIn_app (goodIn_of _ (by decide +kernel)) ggX11_refusalOf_X11_isBarred
set_option maxRecDepth 20000 in
theorem ggX11_refusalOf_X11_doesLack : GoodIn wsX11_refusalOf wsX11_doesLack := goodIn_r _ [28, 7, 8, 9, 5, 10, 1, 11, 12, 13, 14, 15, 16, 17, 29, 30, 31, 32, 33, 34, 35, 36, 37, 38, 39, 40, 41, 42, 43, 44, 45, 46, 47, 48, 49, 50, 51, 52, 53, 54, 55, 56, 57, 58, 59, 60, 61, 62, 63, 64, 65, 66, 67, 68] (by decide +kernel) (by decide +kernel)
set_option maxRecDepth 20000 in
theorem gX11_refusalOf_X11_doesLack : GoodIn wsX11_refusalOf (wsV RX11 113 RX11 yX11_doesLack wsX11_doesLack) := goodIn_app (goodIn_of _ (by decide +kernel)) ggX11_refusalOf_X11_doesLack
theorem dX11_refusalOf_0 : decode cX11_refusalOf 0 = .ok (.aload_n 0, 1) := by decide +kernel
theorem dX11_refusalOf_1 : decode cX11_refusalOf 1 = .ok (.iload_n 1, 1) := by decide +kernel
theorem dX11_refusalOf_2 : decode cX11_refusalOf 2 = .ok (.iconst 0, 1) := by decide +kernel
theorem dX11_refusalOf_3 : decode cX11_refusalOf 3 = .ok (.invokevirtual 102, 3) := by decide +kernel
theorem dX11_refusalOf_6 : decode cX11_refusalOf 6 = .ok (.aload_n 0, 1) := by decide +kernel
theorem dX11_refusalOf_7 : decode cX11_refusalOf 7 = .ok (.getfield 24, 3) := by decide +kernel
theorem dX11_refusalOf_10 : decode cX11_refusalOf 10 = .ok (.iconst 1, 1) := by decide +kernel
theorem dX11_refusalOf_11 : decode cX11_refusalOf 11 = .ok (.iaload, 1) := by decide +kernel
theorem dX11_refusalOf_12 : decode cX11_refusalOf 12 = .ok (.if_icmp .le 5, 3) := by decide +kernel
theorem dX11_refusalOf_15 : decode cX11_refusalOf 15 = .ok (.iconst 1, 1) := by decide +kernel
theorem dX11_refusalOf_16 : decode cX11_refusalOf 16 = .ok (.ireturn, 1) := by decide +kernel
theorem dX11_refusalOf_17 : decode cX11_refusalOf 17 = .ok (.iload_n 1, 1) := by decide +kernel
theorem dX11_refusalOf_18 : decode cX11_refusalOf 18 = .ok (.invokestatic 105, 3) := by decide +kernel
theorem dX11_refusalOf_21 : decode cX11_refusalOf 21 = .ok (.aload_n 0, 1) := by decide +kernel
theorem dX11_refusalOf_22 : decode cX11_refusalOf 22 = .ok (.getfield 24, 3) := by decide +kernel
theorem dX11_refusalOf_25 : decode cX11_refusalOf 25 = .ok (.iconst 2, 1) := by decide +kernel
theorem dX11_refusalOf_26 : decode cX11_refusalOf 26 = .ok (.iaload, 1) := by decide +kernel
theorem dX11_refusalOf_27 : decode cX11_refusalOf 27 = .ok (.if_icmp .le 5, 3) := by decide +kernel
theorem dX11_refusalOf_30 : decode cX11_refusalOf 30 = .ok (.iconst 2, 1) := by decide +kernel
theorem dX11_refusalOf_31 : decode cX11_refusalOf 31 = .ok (.ireturn, 1) := by decide +kernel
theorem dX11_refusalOf_32 : decode cX11_refusalOf 32 = .ok (.aload_n 0, 1) := by decide +kernel
theorem dX11_refusalOf_33 : decode cX11_refusalOf 33 = .ok (.iload_n 1, 1) := by decide +kernel
theorem dX11_refusalOf_34 : decode cX11_refusalOf 34 = .ok (.invokevirtual 109, 3) := by decide +kernel
theorem dX11_refusalOf_37 : decode cX11_refusalOf 37 = .ok (.ifCond .eq 5, 3) := by decide +kernel
theorem dX11_refusalOf_40 : decode cX11_refusalOf 40 = .ok (.iconst 3, 1) := by decide +kernel
theorem dX11_refusalOf_41 : decode cX11_refusalOf 41 = .ok (.ireturn, 1) := by decide +kernel
theorem dX11_refusalOf_42 : decode cX11_refusalOf 42 = .ok (.aload_n 0, 1) := by decide +kernel
theorem dX11_refusalOf_43 : decode cX11_refusalOf 43 = .ok (.iload_n 1, 1) := by decide +kernel
theorem dX11_refusalOf_44 : decode cX11_refusalOf 44 = .ok (.invokevirtual 113, 3) := by decide +kernel
theorem dX11_refusalOf_47 : decode cX11_refusalOf 47 = .ok (.ifCond .eq 5, 3) := by decide +kernel
theorem dX11_refusalOf_50 : decode cX11_refusalOf 50 = .ok (.iconst 4, 1) := by decide +kernel
theorem dX11_refusalOf_51 : decode cX11_refusalOf 51 = .ok (.ireturn, 1) := by decide +kernel
theorem dX11_refusalOf_52 : decode cX11_refusalOf 52 = .ok (.aload_n 0, 1) := by decide +kernel
theorem dX11_refusalOf_53 : decode cX11_refusalOf 53 = .ok (.getfield 24, 3) := by decide +kernel
theorem dX11_refusalOf_56 : decode cX11_refusalOf 56 = .ok (.iconst 3, 1) := by decide +kernel
theorem dX11_refusalOf_57 : decode cX11_refusalOf 57 = .ok (.iaload, 1) := by decide +kernel
theorem dX11_refusalOf_58 : decode cX11_refusalOf 58 = .ok (.iload_n 1, 1) := by decide +kernel
theorem dX11_refusalOf_59 : decode cX11_refusalOf 59 = .ok (.iconst (-1), 1) := by decide +kernel
theorem dX11_refusalOf_60 : decode cX11_refusalOf 60 = .ok (.ixor, 1) := by decide +kernel
theorem dX11_refusalOf_61 : decode cX11_refusalOf 61 = .ok (.iand, 1) := by decide +kernel
theorem dX11_refusalOf_62 : decode cX11_refusalOf 62 = .ok (.ifCond .eq 5, 3) := by decide +kernel
theorem dX11_refusalOf_65 : decode cX11_refusalOf 65 = .ok (.iconst 5, 1) := by decide +kernel
theorem dX11_refusalOf_66 : decode cX11_refusalOf 66 = .ok (.ireturn, 1) := by decide +kernel
theorem dX11_refusalOf_67 : decode cX11_refusalOf 67 = .ok (.aload_n 0, 1) := by decide +kernel
theorem dX11_refusalOf_68 : decode cX11_refusalOf 68 = .ok (.getfield 24, 3) := by decide +kernel
theorem dX11_refusalOf_71 : decode cX11_refusalOf 71 = .ok (.iconst 4, 1) := by decide +kernel
theorem dX11_refusalOf_72 : decode cX11_refusalOf 72 = .ok (.iaload, 1) := by decide +kernel
theorem dX11_refusalOf_73 : decode cX11_refusalOf 73 = .ok (.iload_n 1, 1) := by decide +kernel
theorem dX11_refusalOf_74 : decode cX11_refusalOf 74 = .ok (.iand, 1) := by decide +kernel
theorem dX11_refusalOf_75 : decode cX11_refusalOf 75 = .ok (.ifCond .eq 8, 3) := by decide +kernel
theorem dX11_refusalOf_78 : decode cX11_refusalOf 78 = .ok (.bipush 6, 2) := by decide +kernel
theorem dX11_refusalOf_80 : decode cX11_refusalOf 80 = .ok (.goto 4, 3) := by decide +kernel
theorem dX11_refusalOf_83 : decode cX11_refusalOf 83 = .ok (.iconst 0, 1) := by decide +kernel
theorem dX11_refusalOf_84 : decode cX11_refusalOf 84 = .ok (.ireturn, 1) := by decide +kernel
set_option maxRecDepth 20000 in
theorem ggX11_isAllowed_X11_refusalOf : GoodIn wsX11_isAllowed wsX11_refusalOf := goodIn_r _ [5, 6, 7, 8, 9, 4, 10, 11, 12, 13, 14, 15, 16, 17, 18, 19, 20, 21, 22, 23, 24, 25, 26, 27, 28, 29, 30, 31, 32, 33, 34, 35, 36, 37, 38, 39, 40, 41, 42, 43, 44, 45, 46, 47, 48, 49, 50, 51, 52, 53, 54, 55, 56, 57, 58, 59, 60, 61, 62, 63, 64, 65, 66, 67, 68, 69, 70, 71, 72] (by decide +kernel) (by decide +kernel)
set_option maxRecDepth 20000 in
theorem gX11_isAllowed_X11_refusalOf : GoodIn wsX11_isAllowed (wsV RX11 116 RX11 yX11_refusalOf wsX11_refusalOf) := goodIn_app (goodIn_of _ (by decide +kernel)) ggX11_isAllowed_X11_refusalOf
theorem dX11_isAllowed_0 : decode cX11_isAllowed 0 = .ok (.aload_n 0, 1) := by decide +kernel
theorem dX11_isAllowed_1 : decode cX11_isAllowed 1 = .ok (.iload_n 1, 1) := by decide +kernel
theorem dX11_isAllowed_2 : decode cX11_isAllowed 2 = .ok (.invokevirtual 116, 3) := by decide +kernel
theorem dX11_isAllowed_5 : decode cX11_isAllowed 5 = .ok (.ifCond .ne 7, 3) := by decide +kernel
theorem dX11_isAllowed_8 : decode cX11_isAllowed 8 = .ok (.iconst 1, 1) := by decide +kernel
theorem dX11_isAllowed_9 : decode cX11_isAllowed 9 = .ok (.goto 4, 3) := by decide +kernel
theorem dX11_isAllowed_12 : decode cX11_isAllowed 12 = .ok (.iconst 0, 1) := by decide +kernel
theorem dX11_isAllowed_13 : decode cX11_isAllowed 13 = .ok (.ireturn, 1) := by decide +kernel
set_option maxRecDepth 20000 in
theorem ggX11_layJoys_X11_allSets : GoodIn wsX11_layJoys wsX11_allSets := goodIn_r _ [11, 12, 13, 14, 10, 15, 16, 47, 48, 49, 50, 51, 52, 53, 54, 55, 56, 57, 58, 59, 60, 61, 62, 63, 64, 65, 66, 67, 68, 69, 70, 71, 72, 73, 74, 75, 76, 77, 78, 79, 80, 81, 82, 83, 84, 85, 86] (by decide +kernel) (by decide +kernel)
set_option maxRecDepth 20000 in
theorem gX11_layJoys_X11_allSets : GoodIn wsX11_layJoys (wsV RX11 91 RX11 yX11_allSets wsX11_allSets) := goodIn_app (goodIn_of _ (by decide +kernel)) ggX11_layJoys_X11_allSets
set_option maxRecDepth 20000 in
theorem ggX11_layJoys_X11_isAllowed : GoodIn wsX11_layJoys wsX11_isAllowed := goodIn_r _ [20, 21, 22, 23, 10, 24, 16, 25, 26, 27, 28, 12, 13, 14, 15, 29, 30, 31, 32, 33, 34, 35, 36, 37, 38, 39, 40, 41, 42, 43, 44, 45, 46, 47, 48, 49, 50, 51, 52, 53, 54, 55, 56, 57, 58, 59, 60, 61, 62, 63, 64, 65, 66, 67, 68, 69, 70, 71, 72, 73, 74, 75, 76, 77, 78, 79, 80, 81, 82, 83, 84, 85, 86] (by decide +kernel) (by decide +kernel)
set_option maxRecDepth 20000 in
theorem gX11_layJoys_X11_isAllowed : GoodIn wsX11_layJoys (wsV RX11 122 RX11 yX11_isAllowed wsX11_isAllowed) := goodIn_app (goodIn_of _ (by decide +kernel)) ggX11_layJoys_X11_isAllowed
set_option maxRecDepth 20000 in
theorem ggX11_layJoys_X11_sumOf : GoodIn wsX11_layJoys wsX11_sumOf := goodIn_r _ [28, 12, 13, 14, 10, 15, 16, 29, 30, 31, 32, 33, 34, 35, 47, 48, 49, 50, 51, 52, 53, 54, 55, 56, 57, 58, 59, 60, 61, 62, 63, 64, 65, 66, 67, 68, 69, 70, 71, 72, 73, 74, 75, 76, 77, 78, 79, 80, 81, 82, 83, 84, 85, 86] (by decide +kernel) (by decide +kernel)
set_option maxRecDepth 20000 in
theorem gX11_layJoys_X11_sumOf : GoodIn wsX11_layJoys (wsV RX11 102 RX11 yX11_sumOf wsX11_sumOf) := goodIn_app (goodIn_of _ (by decide +kernel)) ggX11_layJoys_X11_sumOf
theorem dX11_layJoys_0 : decode cX11_layJoys 0 = .ok (.aload_n 0, 1) := by decide +kernel
theorem dX11_layJoys_1 : decode cX11_layJoys 1 = .ok (.iconst 0, 1) := by decide +kernel
theorem dX11_layJoys_2 : decode cX11_layJoys 2 = .ok (.putfield 119, 3) := by decide +kernel
theorem dX11_layJoys_5 : decode cX11_layJoys 5 = .ok (.iconst 0, 1) := by decide +kernel
theorem dX11_layJoys_6 : decode cX11_layJoys 6 = .ok (.istore_n 1, 1) := by decide +kernel
theorem dX11_layJoys_7 : decode cX11_layJoys 7 = .ok (.iload_n 1, 1) := by decide +kernel
theorem dX11_layJoys_8 : decode cX11_layJoys 8 = .ok (.sipush 1189, 3) := by decide +kernel
theorem dX11_layJoys_11 : decode cX11_layJoys 11 = .ok (.if_icmp .ge 16, 3) := by decide +kernel
theorem dX11_layJoys_14 : decode cX11_layJoys 14 = .ok (.aload_n 0, 1) := by decide +kernel
theorem dX11_layJoys_15 : decode cX11_layJoys 15 = .ok (.getfield 27, 3) := by decide +kernel
theorem dX11_layJoys_18 : decode cX11_layJoys 18 = .ok (.iload_n 1, 1) := by decide +kernel
theorem dX11_layJoys_19 : decode cX11_layJoys 19 = .ok (.iconst (-1), 1) := by decide +kernel
theorem dX11_layJoys_20 : decode cX11_layJoys 20 = .ok (.iastore, 1) := by decide +kernel
theorem dX11_layJoys_21 : decode cX11_layJoys 21 = .ok (.iinc 1 1, 3) := by decide +kernel
theorem dX11_layJoys_24 : decode cX11_layJoys 24 = .ok (.goto (-17), 3) := by decide +kernel
theorem dX11_layJoys_27 : decode cX11_layJoys 27 = .ok (.iconst 0, 1) := by decide +kernel
theorem dX11_layJoys_28 : decode cX11_layJoys 28 = .ok (.istore_n 1, 1) := by decide +kernel
theorem dX11_layJoys_29 : decode cX11_layJoys 29 = .ok (.iload_n 1, 1) := by decide +kernel
theorem dX11_layJoys_30 : decode cX11_layJoys 30 = .ok (.aload_n 0, 1) := by decide +kernel
theorem dX11_layJoys_31 : decode cX11_layJoys 31 = .ok (.invokevirtual 91, 3) := by decide +kernel
theorem dX11_layJoys_34 : decode cX11_layJoys 34 = .ok (.if_icmp .ge 58, 3) := by decide +kernel
theorem dX11_layJoys_37 : decode cX11_layJoys 37 = .ok (.aload_n 0, 1) := by decide +kernel
theorem dX11_layJoys_38 : decode cX11_layJoys 38 = .ok (.iload_n 1, 1) := by decide +kernel
theorem dX11_layJoys_39 : decode cX11_layJoys 39 = .ok (.invokevirtual 122, 3) := by decide +kernel
theorem dX11_layJoys_42 : decode cX11_layJoys 42 = .ok (.ifCond .ne 6, 3) := by decide +kernel
theorem dX11_layJoys_45 : decode cX11_layJoys 45 = .ok (.goto 41, 3) := by decide +kernel
theorem dX11_layJoys_48 : decode cX11_layJoys 48 = .ok (.aload_n 0, 1) := by decide +kernel
theorem dX11_layJoys_49 : decode cX11_layJoys 49 = .ok (.dup, 1) := by decide +kernel
theorem dX11_layJoys_50 : decode cX11_layJoys 50 = .ok (.getfield 119, 3) := by decide +kernel
theorem dX11_layJoys_53 : decode cX11_layJoys 53 = .ok (.iconst 1, 1) := by decide +kernel
theorem dX11_layJoys_54 : decode cX11_layJoys 54 = .ok (.iadd, 1) := by decide +kernel
theorem dX11_layJoys_55 : decode cX11_layJoys 55 = .ok (.putfield 119, 3) := by decide +kernel
theorem dX11_layJoys_58 : decode cX11_layJoys 58 = .ok (.aload_n 0, 1) := by decide +kernel
theorem dX11_layJoys_59 : decode cX11_layJoys 59 = .ok (.iload_n 1, 1) := by decide +kernel
theorem dX11_layJoys_60 : decode cX11_layJoys 60 = .ok (.iconst 1, 1) := by decide +kernel
theorem dX11_layJoys_61 : decode cX11_layJoys 61 = .ok (.invokevirtual 102, 3) := by decide +kernel
theorem dX11_layJoys_64 : decode cX11_layJoys 64 = .ok (.istore_n 2, 1) := by decide +kernel
theorem dX11_layJoys_65 : decode cX11_layJoys 65 = .ok (.aload_n 0, 1) := by decide +kernel
theorem dX11_layJoys_66 : decode cX11_layJoys 66 = .ok (.getfield 27, 3) := by decide +kernel
theorem dX11_layJoys_69 : decode cX11_layJoys 69 = .ok (.iload_n 2, 1) := by decide +kernel
theorem dX11_layJoys_70 : decode cX11_layJoys 70 = .ok (.aload_n 0, 1) := by decide +kernel
theorem dX11_layJoys_71 : decode cX11_layJoys 71 = .ok (.getfield 27, 3) := by decide +kernel
theorem dX11_layJoys_74 : decode cX11_layJoys 74 = .ok (.iload_n 2, 1) := by decide +kernel
theorem dX11_layJoys_75 : decode cX11_layJoys 75 = .ok (.iaload, 1) := by decide +kernel
theorem dX11_layJoys_76 : decode cX11_layJoys 76 = .ok (.aload_n 0, 1) := by decide +kernel
theorem dX11_layJoys_77 : decode cX11_layJoys 77 = .ok (.iload_n 1, 1) := by decide +kernel
theorem dX11_layJoys_78 : decode cX11_layJoys 78 = .ok (.iconst 2, 1) := by decide +kernel
theorem dX11_layJoys_79 : decode cX11_layJoys 79 = .ok (.invokevirtual 102, 3) := by decide +kernel
theorem dX11_layJoys_82 : decode cX11_layJoys 82 = .ok (.invokestatic 125, 3) := by decide +kernel
theorem dX11_layJoys_85 : decode cX11_layJoys 85 = .ok (.iastore, 1) := by decide +kernel
theorem dX11_layJoys_86 : decode cX11_layJoys 86 = .ok (.iinc 1 1, 3) := by decide +kernel
theorem dX11_layJoys_89 : decode cX11_layJoys 89 = .ok (.goto (-60), 3) := by decide +kernel
theorem dX11_layJoys_92 : decode cX11_layJoys 92 = .ok (.return_, 1) := by decide +kernel
theorem dX11_layGains_0 : decode cX11_layGains 0 = .ok (.iconst (-1), 1) := by decide +kernel
theorem dX11_layGains_1 : decode cX11_layGains 1 = .ok (.istore_n 1, 1) := by decide +kernel
theorem dX11_layGains_2 : decode cX11_layGains 2 = .ok (.aload_n 0, 1) := by decide +kernel
theorem dX11_layGains_3 : decode cX11_layGains 3 = .ok (.iconst 0, 1) := by decide +kernel
theorem dX11_layGains_4 : decode cX11_layGains 4 = .ok (.putfield 130, 3) := by decide +kernel
theorem dX11_layGains_7 : decode cX11_layGains 7 = .ok (.sipush 1188, 3) := by decide +kernel
theorem dX11_layGains_10 : decode cX11_layGains 10 = .ok (.istore_n 2, 1) := by decide +kernel
theorem dX11_layGains_11 : decode cX11_layGains 11 = .ok (.iload_n 2, 1) := by decide +kernel
theorem dX11_layGains_12 : decode cX11_layGains 12 = .ok (.ifCond .lt 74, 3) := by decide +kernel
theorem dX11_layGains_15 : decode cX11_layGains 15 = .ok (.aload_n 0, 1) := by decide +kernel
theorem dX11_layGains_16 : decode cX11_layGains 16 = .ok (.getfield 27, 3) := by decide +kernel
theorem dX11_layGains_19 : decode cX11_layGains 19 = .ok (.iload_n 2, 1) := by decide +kernel
theorem dX11_layGains_20 : decode cX11_layGains 20 = .ok (.iaload, 1) := by decide +kernel
theorem dX11_layGains_21 : decode cX11_layGains 21 = .ok (.iload_n 1, 1) := by decide +kernel
theorem dX11_layGains_22 : decode cX11_layGains 22 = .ok (.if_icmp .le 7, 3) := by decide +kernel
theorem dX11_layGains_25 : decode cX11_layGains 25 = .ok (.iconst 1, 1) := by decide +kernel
theorem dX11_layGains_26 : decode cX11_layGains 26 = .ok (.goto 4, 3) := by decide +kernel
theorem dX11_layGains_29 : decode cX11_layGains 29 = .ok (.iconst 0, 1) := by decide +kernel
theorem dX11_layGains_30 : decode cX11_layGains 30 = .ok (.istore_n 3, 1) := by decide +kernel
theorem dX11_layGains_31 : decode cX11_layGains 31 = .ok (.iload_n 1, 1) := by decide +kernel
theorem dX11_layGains_32 : decode cX11_layGains 32 = .ok (.aload_n 0, 1) := by decide +kernel
theorem dX11_layGains_33 : decode cX11_layGains 33 = .ok (.getfield 27, 3) := by decide +kernel
theorem dX11_layGains_36 : decode cX11_layGains 36 = .ok (.iload_n 2, 1) := by decide +kernel
theorem dX11_layGains_37 : decode cX11_layGains 37 = .ok (.iaload, 1) := by decide +kernel
theorem dX11_layGains_38 : decode cX11_layGains 38 = .ok (.invokestatic 125, 3) := by decide +kernel
theorem dX11_layGains_41 : decode cX11_layGains 41 = .ok (.istore_n 1, 1) := by decide +kernel
theorem dX11_layGains_42 : decode cX11_layGains 42 = .ok (.aload_n 0, 1) := by decide +kernel
theorem dX11_layGains_43 : decode cX11_layGains 43 = .ok (.getfield 27, 3) := by decide +kernel
theorem dX11_layGains_46 : decode cX11_layGains 46 = .ok (.iload_n 2, 1) := by decide +kernel
theorem dX11_layGains_47 : decode cX11_layGains 47 = .ok (.iload_n 3, 1) := by decide +kernel
theorem dX11_layGains_48 : decode cX11_layGains 48 = .ok (.ifCond .eq 12, 3) := by decide +kernel
theorem dX11_layGains_51 : decode cX11_layGains 51 = .ok (.aload_n 0, 1) := by decide +kernel
theorem dX11_layGains_52 : decode cX11_layGains 52 = .ok (.getfield 27, 3) := by decide +kernel
theorem dX11_layGains_55 : decode cX11_layGains 55 = .ok (.iload_n 2, 1) := by decide +kernel
theorem dX11_layGains_56 : decode cX11_layGains 56 = .ok (.iaload, 1) := by decide +kernel
theorem dX11_layGains_57 : decode cX11_layGains 57 = .ok (.goto 4, 3) := by decide +kernel
theorem dX11_layGains_60 : decode cX11_layGains 60 = .ok (.iconst (-1), 1) := by decide +kernel
theorem dX11_layGains_61 : decode cX11_layGains 61 = .ok (.iastore, 1) := by decide +kernel
theorem dX11_layGains_62 : decode cX11_layGains 62 = .ok (.aload_n 0, 1) := by decide +kernel
theorem dX11_layGains_63 : decode cX11_layGains 63 = .ok (.dup, 1) := by decide +kernel
theorem dX11_layGains_64 : decode cX11_layGains 64 = .ok (.getfield 130, 3) := by decide +kernel
theorem dX11_layGains_67 : decode cX11_layGains 67 = .ok (.iload_n 3, 1) := by decide +kernel
theorem dX11_layGains_68 : decode cX11_layGains 68 = .ok (.ifCond .eq 7, 3) := by decide +kernel
theorem dX11_layGains_71 : decode cX11_layGains 71 = .ok (.iconst 1, 1) := by decide +kernel
theorem dX11_layGains_72 : decode cX11_layGains 72 = .ok (.goto 4, 3) := by decide +kernel
theorem dX11_layGains_75 : decode cX11_layGains 75 = .ok (.iconst 0, 1) := by decide +kernel
theorem dX11_layGains_76 : decode cX11_layGains 76 = .ok (.iadd, 1) := by decide +kernel
theorem dX11_layGains_77 : decode cX11_layGains 77 = .ok (.putfield 130, 3) := by decide +kernel
theorem dX11_layGains_80 : decode cX11_layGains 80 = .ok (.iinc 2 (-1), 3) := by decide +kernel
theorem dX11_layGains_83 : decode cX11_layGains 83 = .ok (.goto (-72), 3) := by decide +kernel
theorem dX11_layGains_86 : decode cX11_layGains 86 = .ok (.return_, 1) := by decide +kernel
set_option maxRecDepth 20000 in
theorem ggX11_layPoints_X11_layJoys : GoodIn wsX11_layPoints wsX11_layJoys := goodIn_r _ [10, 11, 2, 12, 13, 14, 15, 16, 17, 18, 9, 19, 20, 21, 22, 23, 24, 25, 26, 27, 28, 29, 30, 31, 32, 33, 34, 35, 36, 37, 38, 39, 40, 41, 42, 43, 44, 45, 46, 47, 48, 49, 50, 51, 52, 53, 54, 60, 61, 62, 63, 64, 65, 66, 67, 68, 69, 70, 71, 72, 73, 74, 75, 76, 77, 78, 79, 80, 81, 82, 83, 84, 85, 86, 87, 88, 89, 90, 91, 92, 93, 94, 95, 96, 97, 98, 99] (by decide +kernel) (by decide +kernel)
set_option maxRecDepth 20000 in
theorem gX11_layPoints_X11_layJoys : GoodIn wsX11_layPoints (wsV RX11 133 RX11 yX11_layJoys wsX11_layJoys) := goodIn_app (goodIn_of _ (by decide +kernel)) ggX11_layPoints_X11_layJoys
set_option maxRecDepth 20000 in
theorem ggX11_layPoints_X11_layGains : GoodIn wsX11_layPoints wsX11_layGains := goodIn_r _ [58, 59, 2, 12, 13, 14, 15, 60, 61, 62, 63, 64, 65, 66, 67, 68, 69, 70, 71, 72, 73, 74, 75, 76, 77, 78, 79, 80, 81, 82, 83, 84, 85, 86, 87, 88, 89, 90, 91, 92, 93, 94, 95, 96, 97, 98, 99] (by decide +kernel) (by decide +kernel)
set_option maxRecDepth 20000 in
theorem gX11_layPoints_X11_layGains : GoodIn wsX11_layPoints (wsV RX11 136 RX11 yX11_layGains wsX11_layGains) := goodIn_app (goodIn_of _ (by decide +kernel)) ggX11_layPoints_X11_layGains
theorem dX11_layPoints_0 : decode cX11_layPoints 0 = .ok (.aload_n 0, 1) := by decide +kernel
theorem dX11_layPoints_1 : decode cX11_layPoints 1 = .ok (.invokevirtual 133, 3) := by decide +kernel
theorem dX11_layPoints_4 : decode cX11_layPoints 4 = .ok (.aload_n 0, 1) := by decide +kernel
theorem dX11_layPoints_5 : decode cX11_layPoints 5 = .ok (.invokevirtual 136, 3) := by decide +kernel
theorem dX11_layPoints_8 : decode cX11_layPoints 8 = .ok (.iconst 0, 1) := by decide +kernel
theorem dX11_layPoints_9 : decode cX11_layPoints 9 = .ok (.istore_n 1, 1) := by decide +kernel
theorem dX11_layPoints_10 : decode cX11_layPoints 10 = .ok (.iconst 0, 1) := by decide +kernel
theorem dX11_layPoints_11 : decode cX11_layPoints 11 = .ok (.istore_n 2, 1) := by decide +kernel
theorem dX11_layPoints_12 : decode cX11_layPoints 12 = .ok (.iload_n 2, 1) := by decide +kernel
theorem dX11_layPoints_13 : decode cX11_layPoints 13 = .ok (.sipush 1189, 3) := by decide +kernel
theorem dX11_layPoints_16 : decode cX11_layPoints 16 = .ok (.if_icmp .ge 72, 3) := by decide +kernel
theorem dX11_layPoints_19 : decode cX11_layPoints 19 = .ok (.aload_n 0, 1) := by decide +kernel
theorem dX11_layPoints_20 : decode cX11_layPoints 20 = .ok (.getfield 45, 3) := by decide +kernel
theorem dX11_layPoints_23 : decode cX11_layPoints 23 = .ok (.iload_n 2, 1) := by decide +kernel
theorem dX11_layPoints_24 : decode cX11_layPoints 24 = .ok (.aload_n 0, 1) := by decide +kernel
theorem dX11_layPoints_25 : decode cX11_layPoints 25 = .ok (.getfield 27, 3) := by decide +kernel
theorem dX11_layPoints_28 : decode cX11_layPoints 28 = .ok (.iload_n 2, 1) := by decide +kernel
theorem dX11_layPoints_29 : decode cX11_layPoints 29 = .ok (.iaload, 1) := by decide +kernel
theorem dX11_layPoints_30 : decode cX11_layPoints 30 = .ok (.iconst (-1), 1) := by decide +kernel
theorem dX11_layPoints_31 : decode cX11_layPoints 31 = .ok (.if_icmp .ne 7, 3) := by decide +kernel
theorem dX11_layPoints_34 : decode cX11_layPoints 34 = .ok (.iconst (-1), 1) := by decide +kernel
theorem dX11_layPoints_35 : decode cX11_layPoints 35 = .ok (.goto 4, 3) := by decide +kernel
theorem dX11_layPoints_38 : decode cX11_layPoints 38 = .ok (.iload_n 1, 1) := by decide +kernel
theorem dX11_layPoints_39 : decode cX11_layPoints 39 = .ok (.iastore, 1) := by decide +kernel
theorem dX11_layPoints_40 : decode cX11_layPoints 40 = .ok (.aload_n 0, 1) := by decide +kernel
theorem dX11_layPoints_41 : decode cX11_layPoints 41 = .ok (.getfield 27, 3) := by decide +kernel
theorem dX11_layPoints_44 : decode cX11_layPoints 44 = .ok (.iload_n 2, 1) := by decide +kernel
theorem dX11_layPoints_45 : decode cX11_layPoints 45 = .ok (.iaload, 1) := by decide +kernel
theorem dX11_layPoints_46 : decode cX11_layPoints 46 = .ok (.iconst (-1), 1) := by decide +kernel
theorem dX11_layPoints_47 : decode cX11_layPoints 47 = .ok (.if_icmp .ne 6, 3) := by decide +kernel
theorem dX11_layPoints_50 : decode cX11_layPoints 50 = .ok (.goto 32, 3) := by decide +kernel
theorem dX11_layPoints_53 : decode cX11_layPoints 53 = .ok (.aload_n 0, 1) := by decide +kernel
theorem dX11_layPoints_54 : decode cX11_layPoints 54 = .ok (.getfield 30, 3) := by decide +kernel
theorem dX11_layPoints_57 : decode cX11_layPoints 57 = .ok (.iload_n 1, 1) := by decide +kernel
theorem dX11_layPoints_58 : decode cX11_layPoints 58 = .ok (.iload_n 2, 1) := by decide +kernel
theorem dX11_layPoints_59 : decode cX11_layPoints 59 = .ok (.iastore, 1) := by decide +kernel
theorem dX11_layPoints_60 : decode cX11_layPoints 60 = .ok (.aload_n 0, 1) := by decide +kernel
theorem dX11_layPoints_61 : decode cX11_layPoints 61 = .ok (.getfield 33, 3) := by decide +kernel
theorem dX11_layPoints_64 : decode cX11_layPoints 64 = .ok (.iload_n 1, 1) := by decide +kernel
theorem dX11_layPoints_65 : decode cX11_layPoints 65 = .ok (.aload_n 0, 1) := by decide +kernel
