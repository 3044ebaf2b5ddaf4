theorem dX10_setCapacity_31 : decode cX10_setCapacity 31 = .ok (.aload_n 0, 1) := by decide +kernel
theorem dX10_setCapacity_32 : decode cX10_setCapacity 32 = .ok (.invokevirtual 137, 3) := by decide +kernel
theorem dX10_setCapacity_35 : decode cX10_setCapacity 35 = .ok (.iload_n 2, 1) := by decide +kernel
theorem dX10_setCapacity_36 : decode cX10_setCapacity 36 = .ok (.ireturn, 1) := by decide +kernel
theorem dX10_markChanged_0 : decode cX10_markChanged 0 = .ok (.aload_n 0, 1) := by decide +kernel
theorem dX10_markChanged_1 : decode cX10_markChanged 1 = .ok (.iconst 0, 1) := by decide +kernel
theorem dX10_markChanged_2 : decode cX10_markChanged 2 = .ok (.putfield 395, 3) := by decide +kernel
theorem dX10_markChanged_5 : decode cX10_markChanged 5 = .ok (.aload_n 0, 1) := by decide +kernel
theorem dX10_markChanged_6 : decode cX10_markChanged 6 = .ok (.iconst 0, 1) := by decide +kernel
theorem dX10_markChanged_7 : decode cX10_markChanged 7 = .ok (.putfield 399, 3) := by decide +kernel
theorem dX10_markChanged_10 : decode cX10_markChanged 10 = .ok (.aload_n 0, 1) := by decide +kernel
theorem dX10_markChanged_11 : decode cX10_markChanged 11 = .ok (.iconst 0, 1) := by decide +kernel
theorem dX10_markChanged_12 : decode cX10_markChanged 12 = .ok (.putfield 402, 3) := by decide +kernel
theorem dX10_markChanged_15 : decode cX10_markChanged 15 = .ok (.return_, 1) := by decide +kernel
theorem dX10_refreshFrontier_0 : decode cX10_refreshFrontier 0 = .ok (.aload_n 0, 1) := by decide +kernel
theorem dX10_refreshFrontier_1 : decode cX10_refreshFrontier 1 = .ok (.getfield 395, 3) := by decide +kernel
theorem dX10_refreshFrontier_4 : decode cX10_refreshFrontier 4 = .ok (.ifCond .ne 60, 3) := by decide +kernel
theorem dX10_refreshFrontier_7 : decode cX10_refreshFrontier 7 = .ok (.aload_n 0, 1) := by decide +kernel
theorem dX10_refreshFrontier_8 : decode cX10_refreshFrontier 8 = .ok (.getfield 56, 3) := by decide +kernel
theorem dX10_refreshFrontier_11 : decode cX10_refreshFrontier 11 = .ok (.aload_n 0, 1) := by decide +kernel
theorem dX10_refreshFrontier_12 : decode cX10_refreshFrontier 12 = .ok (.getfield 27, 3) := by decide +kernel
theorem dX10_refreshFrontier_15 : decode cX10_refreshFrontier 15 = .ok (.invokevirtual 405, 3) := by decide +kernel
theorem dX10_refreshFrontier_18 : decode cX10_refreshFrontier 18 = .ok (.aload_n 0, 1) := by decide +kernel
theorem dX10_refreshFrontier_19 : decode cX10_refreshFrontier 19 = .ok (.getfield 63, 3) := by decide +kernel
theorem dX10_refreshFrontier_22 : decode cX10_refreshFrontier 22 = .ok (.aload_n 0, 1) := by decide +kernel
theorem dX10_refreshFrontier_23 : decode cX10_refreshFrontier 23 = .ok (.getfield 56, 3) := by decide +kernel
theorem dX10_refreshFrontier_26 : decode cX10_refreshFrontier 26 = .ok (.aload_n 0, 1) := by decide +kernel
theorem dX10_refreshFrontier_27 : decode cX10_refreshFrontier 27 = .ok (.getfield 27, 3) := by decide +kernel
theorem dX10_refreshFrontier_30 : decode cX10_refreshFrontier 30 = .ok (.getfield 147, 3) := by decide +kernel
theorem dX10_refreshFrontier_33 : decode cX10_refreshFrontier 33 = .ok (.iconst 0, 1) := by decide +kernel
theorem dX10_refreshFrontier_34 : decode cX10_refreshFrontier 34 = .ok (.invokevirtual 290, 3) := by decide +kernel
theorem dX10_refreshFrontier_37 : decode cX10_refreshFrontier 37 = .ok (.aload_n 0, 1) := by decide +kernel
theorem dX10_refreshFrontier_38 : decode cX10_refreshFrontier 38 = .ok (.getfield 70, 3) := by decide +kernel
theorem dX10_refreshFrontier_41 : decode cX10_refreshFrontier 41 = .ok (.aload_n 0, 1) := by decide +kernel
theorem dX10_refreshFrontier_42 : decode cX10_refreshFrontier 42 = .ok (.getfield 56, 3) := by decide +kernel
theorem dX10_refreshFrontier_45 : decode cX10_refreshFrontier 45 = .ok (.aload_n 0, 1) := by decide +kernel
theorem dX10_refreshFrontier_46 : decode cX10_refreshFrontier 46 = .ok (.getfield 27, 3) := by decide +kernel
theorem dX10_refreshFrontier_49 : decode cX10_refreshFrontier 49 = .ok (.getfield 147, 3) := by decide +kernel
theorem dX10_refreshFrontier_52 : decode cX10_refreshFrontier 52 = .ok (.aload_n 0, 1) := by decide +kernel
theorem dX10_refreshFrontier_53 : decode cX10_refreshFrontier 53 = .ok (.getfield 63, 3) := by decide +kernel
theorem dX10_refreshFrontier_56 : decode cX10_refreshFrontier 56 = .ok (.invokevirtual 407, 3) := by decide +kernel
theorem dX10_refreshFrontier_59 : decode cX10_refreshFrontier 59 = .ok (.aload_n 0, 1) := by decide +kernel
theorem dX10_refreshFrontier_60 : decode cX10_refreshFrontier 60 = .ok (.iconst 1, 1) := by decide +kernel
theorem dX10_refreshFrontier_61 : decode cX10_refreshFrontier 61 = .ok (.putfield 395, 3) := by decide +kernel
theorem dX10_refreshFrontier_64 : decode cX10_refreshFrontier 64 = .ok (.return_, 1) := by decide +kernel
theorem dX10_refreshLayers_0 : decode cX10_refreshLayers 0 = .ok (.aload_n 0, 1) := by decide +kernel
theorem dX10_refreshLayers_1 : decode cX10_refreshLayers 1 = .ok (.invokevirtual 188, 3) := by decide +kernel
theorem dX10_refreshLayers_4 : decode cX10_refreshLayers 4 = .ok (.aload_n 0, 1) := by decide +kernel
theorem dX10_refreshLayers_5 : decode cX10_refreshLayers 5 = .ok (.getfield 402, 3) := by decide +kernel
theorem dX10_refreshLayers_8 : decode cX10_refreshLayers 8 = .ok (.ifCond .ne 26, 3) := by decide +kernel
theorem dX10_refreshLayers_11 : decode cX10_refreshLayers 11 = .ok (.aload_n 0, 1) := by decide +kernel
theorem dX10_refreshLayers_12 : decode cX10_refreshLayers 12 = .ok (.getfield 84, 3) := by decide +kernel
theorem dX10_refreshLayers_15 : decode cX10_refreshLayers 15 = .ok (.aload_n 0, 1) := by decide +kernel
theorem dX10_refreshLayers_16 : decode cX10_refreshLayers 16 = .ok (.getfield 56, 3) := by decide +kernel
theorem dX10_refreshLayers_19 : decode cX10_refreshLayers 19 = .ok (.aload_n 0, 1) := by decide +kernel
theorem dX10_refreshLayers_20 : decode cX10_refreshLayers 20 = .ok (.getfield 27, 3) := by decide +kernel
theorem dX10_refreshLayers_23 : decode cX10_refreshLayers 23 = .ok (.getfield 147, 3) := by decide +kernel
theorem dX10_refreshLayers_26 : decode cX10_refreshLayers 26 = .ok (.invokevirtual 413, 3) := by decide +kernel
theorem dX10_refreshLayers_29 : decode cX10_refreshLayers 29 = .ok (.aload_n 0, 1) := by decide +kernel
theorem dX10_refreshLayers_30 : decode cX10_refreshLayers 30 = .ok (.iconst 1, 1) := by decide +kernel
theorem dX10_refreshLayers_31 : decode cX10_refreshLayers 31 = .ok (.putfield 402, 3) := by decide +kernel
theorem dX10_refreshLayers_34 : decode cX10_refreshLayers 34 = .ok (.return_, 1) := by decide +kernel
theorem dX10_requireItem_0 : decode cX10_requireItem 0 = .ok (.aload_n 0, 1) := by decide +kernel
theorem dX10_requireItem_1 : decode cX10_requireItem 1 = .ok (.getfield 27, 3) := by decide +kernel
theorem dX10_requireItem_4 : decode cX10_requireItem 4 = .ok (.iload_n 1, 1) := by decide +kernel
theorem dX10_requireItem_5 : decode cX10_requireItem 5 = .ok (.invokevirtual 416, 3) := by decide +kernel
theorem dX10_requireItem_8 : decode cX10_requireItem 8 = .ok (.ifCond .ne 14, 3) := by decide +kernel
theorem dX10_requireItem_11 : decode cX10_requireItem 11 = .ok (.new 240, 3) := by decide +kernel
theorem dX10_requireItem_14 : decode cX10_requireItem 14 = .ok (.dup, 1) := by decide +kernel
theorem dX10_requireItem_15 : decode cX10_requireItem 15 = .ok (.ldc_w 420, 3) := by decide +kernel
theorem dX10_requireItem_18 : decode cX10_requireItem 18 = .ok (.invokespecial 244, 3) := by decide +kernel
theorem dX10_requireItem_21 : decode cX10_requireItem 21 = .ok (.athrow, 1) := by decide +kernel
theorem dX10_requireItem_22 : decode cX10_requireItem 22 = .ok (.return_, 1) := by decide +kernel
theorem dX10_requireSet_0 : decode cX10_requireSet 0 = .ok (.iload_n 1, 1) := by decide +kernel
theorem dX10_requireSet_1 : decode cX10_requireSet 1 = .ok (.ifCond .lt 14, 3) := by decide +kernel
theorem dX10_requireSet_4 : decode cX10_requireSet 4 = .ok (.iload_n 1, 1) := by decide +kernel
theorem dX10_requireSet_5 : decode cX10_requireSet 5 = .ok (.aload_n 0, 1) := by decide +kernel
theorem dX10_requireSet_6 : decode cX10_requireSet 6 = .ok (.getfield 27, 3) := by decide +kernel
theorem dX10_requireSet_9 : decode cX10_requireSet 9 = .ok (.invokevirtual 282, 3) := by decide +kernel
theorem dX10_requireSet_12 : decode cX10_requireSet 12 = .ok (.if_icmp .le 14, 3) := by decide +kernel
theorem dX10_requireSet_15 : decode cX10_requireSet 15 = .ok (.new 109, 3) := by decide +kernel
theorem dX10_requireSet_18 : decode cX10_requireSet 18 = .ok (.dup, 1) := by decide +kernel
theorem dX10_requireSet_19 : decode cX10_requireSet 19 = .ok (.ldc_w 424, 3) := by decide +kernel
theorem dX10_requireSet_22 : decode cX10_requireSet 22 = .ok (.invokespecial 113, 3) := by decide +kernel
theorem dX10_requireSet_25 : decode cX10_requireSet 25 = .ok (.athrow, 1) := by decide +kernel
theorem dX10_requireSet_26 : decode cX10_requireSet 26 = .ok (.return_, 1) := by decide +kernel
theorem dX10_requirePoint_0 : decode cX10_requirePoint 0 = .ok (.aload_n 0, 1) := by decide +kernel
theorem dX10_requirePoint_1 : decode cX10_requirePoint 1 = .ok (.invokevirtual 188, 3) := by decide +kernel
theorem dX10_requirePoint_4 : decode cX10_requirePoint 4 = .ok (.iload_n 1, 1) := by decide +kernel
theorem dX10_requirePoint_5 : decode cX10_requirePoint 5 = .ok (.ifCond .lt 14, 3) := by decide +kernel
theorem dX10_requirePoint_8 : decode cX10_requirePoint 8 = .ok (.iload_n 1, 1) := by decide +kernel
theorem dX10_requirePoint_9 : decode cX10_requirePoint 9 = .ok (.aload_n 0, 1) := by decide +kernel
theorem dX10_requirePoint_10 : decode cX10_requirePoint 10 = .ok (.getfield 70, 3) := by decide +kernel
theorem dX10_requirePoint_13 : decode cX10_requirePoint 13 = .ok (.getfield 201, 3) := by decide +kernel
theorem dX10_requirePoint_16 : decode cX10_requirePoint 16 = .ok (.if_icmp .lt 14, 3) := by decide +kernel
theorem dX10_requirePoint_19 : decode cX10_requirePoint 19 = .ok (.new 240, 3) := by decide +kernel
theorem dX10_requirePoint_22 : decode cX10_requirePoint 22 = .ok (.dup, 1) := by decide +kernel
theorem dX10_requirePoint_23 : decode cX10_requirePoint 23 = .ok (.ldc_w 428, 3) := by decide +kernel
theorem dX10_requirePoint_26 : decode cX10_requirePoint 26 = .ok (.invokespecial 244, 3) := by decide +kernel
theorem dX10_requirePoint_29 : decode cX10_requirePoint 29 = .ok (.athrow, 1) := by decide +kernel
theorem dX10_requirePoint_30 : decode cX10_requirePoint 30 = .ok (.return_, 1) := by decide +kernel
theorem dX10_requireWhat_0 : decode cX10_requireWhat 0 = .ok (.iload_n 0, 1) := by decide +kernel
theorem dX10_requireWhat_1 : decode cX10_requireWhat 1 = .ok (.ifCond .lt 8, 3) := by decide +kernel
theorem dX10_requireWhat_4 : decode cX10_requireWhat 4 = .ok (.iload_n 0, 1) := by decide +kernel
theorem dX10_requireWhat_5 : decode cX10_requireWhat 5 = .ok (.iload_n 1, 1) := by decide +kernel
theorem dX10_requireWhat_6 : decode cX10_requireWhat 6 = .ok (.if_icmp .le 14, 3) := by decide +kernel
theorem dX10_requireWhat_9 : decode cX10_requireWhat 9 = .ok (.new 109, 3) := by decide +kernel
theorem dX10_requireWhat_12 : decode cX10_requireWhat 12 = .ok (.dup, 1) := by decide +kernel
theorem dX10_requireWhat_13 : decode cX10_requireWhat 13 = .ok (.ldc_w 432, 3) := by decide +kernel
theorem dX10_requireWhat_16 : decode cX10_requireWhat 16 = .ok (.invokespecial 113, 3) := by decide +kernel
theorem dX10_requireWhat_19 : decode cX10_requireWhat 19 = .ok (.athrow, 1) := by decide +kernel
theorem dX10_requireWhat_20 : decode cX10_requireWhat 20 = .ok (.return_, 1) := by decide +kernel
theorem dX10_requireCapacity_0 : decode cX10_requireCapacity 0 = .ok (.iload_n 0, 1) := by decide +kernel
theorem dX10_requireCapacity_1 : decode cX10_requireCapacity 1 = .ok (.ifCond .lt 10, 3) := by decide +kernel
theorem dX10_requireCapacity_4 : decode cX10_requireCapacity 4 = .ok (.iload_n 0, 1) := by decide +kernel
theorem dX10_requireCapacity_5 : decode cX10_requireCapacity 5 = .ok (.sipush 999, 3) := by decide +kernel
theorem dX10_requireCapacity_8 : decode cX10_requireCapacity 8 = .ok (.if_icmp .le 14, 3) := by decide +kernel
theorem dX10_requireCapacity_11 : decode cX10_requireCapacity 11 = .ok (.new 109, 3) := by decide +kernel
theorem dX10_requireCapacity_14 : decode cX10_requireCapacity 14 = .ok (.dup, 1) := by decide +kernel
theorem dX10_requireCapacity_15 : decode cX10_requireCapacity 15 = .ok (.ldc_w 436, 3) := by decide +kernel
theorem dX10_requireCapacity_18 : decode cX10_requireCapacity 18 = .ok (.invokespecial 113, 3) := by decide +kernel
theorem dX10_requireCapacity_21 : decode cX10_requireCapacity 21 = .ok (.athrow, 1) := by decide +kernel
theorem dX10_requireCapacity_22 : decode cX10_requireCapacity 22 = .ok (.return_, 1) := by decide +kernel
theorem dX10_hasBit_0 : decode cX10_hasBit 0 = .ok (.iload_n 0, 1) := by decide +kernel
theorem dX10_hasBit_1 : decode cX10_hasBit 1 = .ok (.iload_n 1, 1) := by decide +kernel
theorem dX10_hasBit_2 : decode cX10_hasBit 2 = .ok (.ishr, 1) := by decide +kernel
theorem dX10_hasBit_3 : decode cX10_hasBit 3 = .ok (.iconst 1, 1) := by decide +kernel
theorem dX10_hasBit_4 : decode cX10_hasBit 4 = .ok (.iand, 1) := by decide +kernel
theorem dX10_hasBit_5 : decode cX10_hasBit 5 = .ok (.ifCond .eq 7, 3) := by decide +kernel
theorem dX10_hasBit_8 : decode cX10_hasBit 8 = .ok (.iconst 1, 1) := by decide +kernel
theorem dX10_hasBit_9 : decode cX10_hasBit 9 = .ok (.goto 4, 3) := by decide +kernel
theorem dX10_hasBit_12 : decode cX10_hasBit 12 = .ok (.iconst 0, 1) := by decide +kernel
theorem dX10_hasBit_13 : decode cX10_hasBit 13 = .ok (.ireturn, 1) := by decide +kernel
theorem dX10_withBit_0 : decode cX10_withBit 0 = .ok (.iload_n 2, 1) := by decide +kernel
theorem dX10_withBit_1 : decode cX10_withBit 1 = .ok (.ifCond .eq 11, 3) := by decide +kernel
theorem dX10_withBit_4 : decode cX10_withBit 4 = .ok (.iload_n 0, 1) := by decide +kernel
theorem dX10_withBit_5 : decode cX10_withBit 5 = .ok (.iconst 1, 1) := by decide +kernel
theorem dX10_withBit_6 : decode cX10_withBit 6 = .ok (.iload_n 1, 1) := by decide +kernel
theorem dX10_withBit_7 : decode cX10_withBit 7 = .ok (.ishl, 1) := by decide +kernel
theorem dX10_withBit_8 : decode cX10_withBit 8 = .ok (.ior, 1) := by decide +kernel
theorem dX10_withBit_9 : decode cX10_withBit 9 = .ok (.goto 10, 3) := by decide +kernel
theorem dX10_withBit_12 : decode cX10_withBit 12 = .ok (.iload_n 0, 1) := by decide +kernel
theorem dX10_withBit_13 : decode cX10_withBit 13 = .ok (.iconst 1, 1) := by decide +kernel
theorem dX10_withBit_14 : decode cX10_withBit 14 = .ok (.iload_n 1, 1) := by decide +kernel
theorem dX10_withBit_15 : decode cX10_withBit 15 = .ok (.ishl, 1) := by decide +kernel
theorem dX10_withBit_16 : decode cX10_withBit 16 = .ok (.iconst (-1), 1) := by decide +kernel
theorem dX10_withBit_17 : decode cX10_withBit 17 = .ok (.ixor, 1) := by decide +kernel
theorem dX10_withBit_18 : decode cX10_withBit 18 = .ok (.iand, 1) := by decide +kernel
theorem dX10_withBit_19 : decode cX10_withBit 19 = .ok (.ireturn, 1) := by decide +kernel
theorem dJ6_bitCount_0f7a4_0 : decode cJ6_bitCount_0f7a4 0 = .ok (.iload_n 0, 1) := by decide +kernel
theorem dJ6_bitCount_0f7a4_1 : decode cJ6_bitCount_0f7a4 1 = .ok (.iload_n 0, 1) := by decide +kernel
theorem dJ6_bitCount_0f7a4_2 : decode cJ6_bitCount_0f7a4 2 = .ok (.iconst 1, 1) := by decide +kernel
theorem dJ6_bitCount_0f7a4_3 : decode cJ6_bitCount_0f7a4 3 = .ok (.iushr, 1) := by decide +kernel
theorem dJ6_bitCount_0f7a4_4 : decode cJ6_bitCount_0f7a4 4 = .ok (.ldc_w 265, 3) := by decide +kernel
theorem dJ6_bitCount_0f7a4_7 : decode cJ6_bitCount_0f7a4 7 = .ok (.iand, 1) := by decide +kernel
theorem dJ6_bitCount_0f7a4_8 : decode cJ6_bitCount_0f7a4 8 = .ok (.isub, 1) := by decide +kernel
theorem dJ6_bitCount_0f7a4_9 : decode cJ6_bitCount_0f7a4 9 = .ok (.istore_n 0, 1) := by decide +kernel
theorem dJ6_bitCount_0f7a4_10 : decode cJ6_bitCount_0f7a4 10 = .ok (.iload_n 0, 1) := by decide +kernel
theorem dJ6_bitCount_0f7a4_11 : decode cJ6_bitCount_0f7a4 11 = .ok (.ldc_w 266, 3) := by decide +kernel
theorem dJ6_bitCount_0f7a4_14 : decode cJ6_bitCount_0f7a4 14 = .ok (.iand, 1) := by decide +kernel
theorem dJ6_bitCount_0f7a4_15 : decode cJ6_bitCount_0f7a4 15 = .ok (.iload_n 0, 1) := by decide +kernel
theorem dJ6_bitCount_0f7a4_16 : decode cJ6_bitCount_0f7a4 16 = .ok (.iconst 2, 1) := by decide +kernel
theorem dJ6_bitCount_0f7a4_17 : decode cJ6_bitCount_0f7a4 17 = .ok (.iushr, 1) := by decide +kernel
theorem dJ6_bitCount_0f7a4_18 : decode cJ6_bitCount_0f7a4 18 = .ok (.ldc_w 266, 3) := by decide +kernel
theorem dJ6_bitCount_0f7a4_21 : decode cJ6_bitCount_0f7a4 21 = .ok (.iand, 1) := by decide +kernel
theorem dJ6_bitCount_0f7a4_22 : decode cJ6_bitCount_0f7a4 22 = .ok (.iadd, 1) := by decide +kernel
theorem dJ6_bitCount_0f7a4_23 : decode cJ6_bitCount_0f7a4 23 = .ok (.istore_n 0, 1) := by decide +kernel
theorem dJ6_bitCount_0f7a4_24 : decode cJ6_bitCount_0f7a4 24 = .ok (.iload_n 0, 1) := by decide +kernel
theorem dJ6_bitCount_0f7a4_25 : decode cJ6_bitCount_0f7a4 25 = .ok (.iload_n 0, 1) := by decide +kernel
theorem dJ6_bitCount_0f7a4_26 : decode cJ6_bitCount_0f7a4 26 = .ok (.iconst 4, 1) := by decide +kernel
theorem dJ6_bitCount_0f7a4_27 : decode cJ6_bitCount_0f7a4 27 = .ok (.iushr, 1) := by decide +kernel
theorem dJ6_bitCount_0f7a4_28 : decode cJ6_bitCount_0f7a4 28 = .ok (.iadd, 1) := by decide +kernel
theorem dJ6_bitCount_0f7a4_29 : decode cJ6_bitCount_0f7a4 29 = .ok (.ldc_w 267, 3) := by decide +kernel
theorem dJ6_bitCount_0f7a4_32 : decode cJ6_bitCount_0f7a4 32 = .ok (.iand, 1) := by decide +kernel
theorem dJ6_bitCount_0f7a4_33 : decode cJ6_bitCount_0f7a4 33 = .ok (.istore_n 0, 1) := by decide +kernel
theorem dJ6_bitCount_0f7a4_34 : decode cJ6_bitCount_0f7a4 34 = .ok (.iload_n 0, 1) := by decide +kernel
theorem dJ6_bitCount_0f7a4_35 : decode cJ6_bitCount_0f7a4 35 = .ok (.iload_n 0, 1) := by decide +kernel
theorem dJ6_bitCount_0f7a4_36 : decode cJ6_bitCount_0f7a4 36 = .ok (.bipush 8, 2) := by decide +kernel
theorem dJ6_bitCount_0f7a4_38 : decode cJ6_bitCount_0f7a4 38 = .ok (.iushr, 1) := by decide +kernel
theorem dJ6_bitCount_0f7a4_39 : decode cJ6_bitCount_0f7a4 39 = .ok (.iadd, 1) := by decide +kernel
theorem dJ6_bitCount_0f7a4_40 : decode cJ6_bitCount_0f7a4 40 = .ok (.istore_n 0, 1) := by decide +kernel
theorem dJ6_bitCount_0f7a4_41 : decode cJ6_bitCount_0f7a4 41 = .ok (.iload_n 0, 1) := by decide +kernel
theorem dJ6_bitCount_0f7a4_42 : decode cJ6_bitCount_0f7a4 42 = .ok (.iload_n 0, 1) := by decide +kernel
theorem dJ6_bitCount_0f7a4_43 : decode cJ6_bitCount_0f7a4 43 = .ok (.bipush 16, 2) := by decide +kernel
theorem dJ6_bitCount_0f7a4_45 : decode cJ6_bitCount_0f7a4 45 = .ok (.iushr, 1) := by decide +kernel
theorem dJ6_bitCount_0f7a4_46 : decode cJ6_bitCount_0f7a4 46 = .ok (.iadd, 1) := by decide +kernel
theorem dJ6_bitCount_0f7a4_47 : decode cJ6_bitCount_0f7a4 47 = .ok (.istore_n 0, 1) := by decide +kernel
theorem dJ6_bitCount_0f7a4_48 : decode cJ6_bitCount_0f7a4 48 = .ok (.iload_n 0, 1) := by decide +kernel
theorem dJ6_bitCount_0f7a4_49 : decode cJ6_bitCount_0f7a4 49 = .ok (.bipush 63, 2) := by decide +kernel
theorem dJ6_bitCount_0f7a4_51 : decode cJ6_bitCount_0f7a4 51 = .ok (.iand, 1) := by decide +kernel
theorem dJ6_bitCount_0f7a4_52 : decode cJ6_bitCount_0f7a4 52 = .ok (.ireturn, 1) := by decide +kernel
theorem dJ7_fill_53178_0 : decode cJ7_fill_53178 0 = .ok (.iconst 0, 1) := by decide +kernel
theorem dJ7_fill_53178_1 : decode cJ7_fill_53178 1 = .ok (.istore_n 2, 1) := by decide +kernel
theorem dJ7_fill_53178_2 : decode cJ7_fill_53178 2 = .ok (.aload_n 0, 1) := by decide +kernel
theorem dJ7_fill_53178_3 : decode cJ7_fill_53178 3 = .ok (.arraylength, 1) := by decide +kernel
theorem dJ7_fill_53178_4 : decode cJ7_fill_53178 4 = .ok (.istore_n 3, 1) := by decide +kernel
theorem dJ7_fill_53178_5 : decode cJ7_fill_53178 5 = .ok (.iload_n 2, 1) := by decide +kernel
theorem dJ7_fill_53178_6 : decode cJ7_fill_53178 6 = .ok (.iload_n 3, 1) := by decide +kernel
theorem dJ7_fill_53178_7 : decode cJ7_fill_53178 7 = .ok (.if_icmp .ge 13, 3) := by decide +kernel
theorem dJ7_fill_53178_10 : decode cJ7_fill_53178 10 = .ok (.aload_n 0, 1) := by decide +kernel
theorem dJ7_fill_53178_11 : decode cJ7_fill_53178 11 = .ok (.iload_n 2, 1) := by decide +kernel
theorem dJ7_fill_53178_12 : decode cJ7_fill_53178 12 = .ok (.iload_n 1, 1) := by decide +kernel
theorem dJ7_fill_53178_13 : decode cJ7_fill_53178 13 = .ok (.iastore, 1) := by decide +kernel
theorem dJ7_fill_53178_14 : decode cJ7_fill_53178 14 = .ok (.iinc 2 1, 3) := by decide +kernel
theorem dJ7_fill_53178_17 : decode cJ7_fill_53178 17 = .ok (.goto (-12), 3) := by decide +kernel
theorem dJ7_fill_53178_20 : decode cJ7_fill_53178 20 = .ok (.return_, 1) := by decide +kernel
