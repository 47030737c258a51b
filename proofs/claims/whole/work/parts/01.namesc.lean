theorem dX3_firstOfSet_125 : decode cX3_firstOfSet 125 = .ok (.goto (-95), 3) := by decide +kernel
theorem dX3_firstOfSet_128 : decode cX3_firstOfSet 128 = .ok (.bipush (-9), 2) := by decide +kernel
theorem dX3_firstOfSet_130 : decode cX3_firstOfSet 130 = .ok (.ireturn, 1) := by decide +kernel
set_option maxRecDepth 20000 in
theorem ggX3_fewestWithout_X3_isEver : GoodIn wsX3_fewestWithout wsX3_isEver := goodIn_r _ [5, 6, 7, 8, 4, 9, 10, 11, 12, 13, 14, 15, 16, 17, 18, 19, 20, 21, 22, 23, 24, 25, 26, 27, 28, 29, 30, 31, 32, 33, 34, 35, 36, 37, 38, 39, 40, 41, 42, 43, 44, 45, 46, 47, 48, 49, 50, 51, 52, 53, 54, 55, 56, 57, 58, 59, 60, 61, 62, 63, 64, 65, 66, 111, 112, 113, 114, 115, 116, 117, 118, 119, 120, 121, 122, 123, 124] (by decide +kernel) (by decide +kernel)
set_option maxRecDepth 20000 in
theorem gX3_fewestWithout_X3_isEver : GoodIn wsX3_fewestWithout (wsV RX3 87 RX3 yX3_isEver wsX3_isEver) := goodIn_app (goodIn_of _ (by decide +kernel)) ggX3_fewestWithout_X3_isEver
set_option maxRecDepth 20000 in
theorem ggX3_fewestWithout_X6_pairOf : GoodIn wsX3_fewestWithout wsX6_pairOf := goodIn_r _ [68, 69, 56, 57, 58, 70, 71, 72] (by decide +kernel) (by decide +kernel)
set_option maxRecDepth 20000 in
theorem gX3_fewestWithout_X6_pairOf_n48 : GoodIn wsX3_fewestWithout (wsX6_pairOf) := ggX3_fewestWithout_X6_pairOf
set_option maxRecDepth 20000 in
theorem ggX3_fewestWithout_X2_isDancedPair : GoodIn wsX3_fewestWithout wsX2_isDancedPair := goodIn_r _ [76, 77, 78, 79, 31, 80, 81, 49, 82, 83, 84, 85, 86, 87, 88, 89, 90, 91, 92, 93, 94, 95, 96, 97, 98, 48, 50, 112, 113, 114, 115, 116, 117] (by decide +kernel) (by decide +kernel)
set_option maxRecDepth 20000 in
theorem gX3_fewestWithout_X2_isDancedPair : GoodIn wsX3_fewestWithout (wsV RX3 91 RX2 yX2_isDancedPair wsX2_isDancedPair) := goodIn_app (goodIn_of _ (by decide +kernel)) ggX3_fewestWithout_X2_isDancedPair
set_option maxRecDepth 20000 in
theorem ggX3_fewestWithout_X3_isNeverWithout : GoodIn wsX3_fewestWithout wsX3_isNeverWithout := goodIn_r _ [102, 10, 11, 12, 13, 14, 15, 16, 17, 18, 19, 20, 21, 22, 23, 24, 25, 26, 27, 28, 29, 30, 31, 32, 33, 34, 103, 104, 105, 106, 81, 49, 82, 83, 84, 35, 36, 37, 38, 39, 40, 41, 42, 43, 44, 45, 46, 47, 48, 50, 51, 52, 53, 54, 55, 56, 57, 58, 59, 60, 61, 62, 63, 64, 65, 66, 111, 112, 113, 114, 115, 116, 117, 118, 119, 120, 121, 122, 123, 124] (by decide +kernel) (by decide +kernel)
set_option maxRecDepth 20000 in
theorem gX3_fewestWithout_X3_isNeverWithout : GoodIn wsX3_fewestWithout (wsV RX3 94 RX3 yX3_isNeverWithout wsX3_isNeverWithout) := goodIn_app (goodIn_of _ (by decide +kernel)) ggX3_fewestWithout_X3_isNeverWithout
set_option maxRecDepth 20000 in
theorem ggX3_fewestWithout_X3_isNeverWithSecond : GoodIn wsX3_fewestWithout wsX3_isNeverWithSecond := goodIn_r _ [110, 73, 74, 75, 31, 76, 77, 78, 79, 80, 81, 49, 82, 83, 84, 85, 86, 87, 88, 89, 90, 91, 92, 93, 94, 95, 96, 97, 98, 48, 50, 99, 100, 101, 4, 102, 10, 11, 12, 13, 14, 15, 16, 17, 18, 19, 20, 21, 22, 23, 24, 25, 26, 27, 28, 29, 30, 32, 33, 34, 103, 104, 105, 106, 35, 36, 37, 38, 39, 40, 41, 42, 43, 44, 45, 46, 47, 51, 52, 53, 54, 55, 56, 57, 58, 59, 60, 61, 62, 63, 64, 65, 66, 112, 113, 114, 115, 116, 117, 111, 118, 119, 120, 121, 122, 123, 124] (by decide +kernel) (by decide +kernel)
set_option maxRecDepth 20000 in
theorem gX3_fewestWithout_X3_isNeverWithSecond : GoodIn wsX3_fewestWithout (wsV RX3 98 RX3 yX3_isNeverWithSecond wsX3_isNeverWithSecond) := goodIn_app (goodIn_of _ (by decide +kernel)) ggX3_fewestWithout_X3_isNeverWithSecond
theorem dX3_fewestWithout_0 : decode cX3_fewestWithout 0 = .ok (.aload_n 0, 1) := by decide +kernel
theorem dX3_fewestWithout_1 : decode cX3_fewestWithout 1 = .ok (.aload_n 1, 1) := by decide +kernel
theorem dX3_fewestWithout_2 : decode cX3_fewestWithout 2 = .ok (.iload_n 2, 1) := by decide +kernel
theorem dX3_fewestWithout_3 : decode cX3_fewestWithout 3 = .ok (.iload_n 3, 1) := by decide +kernel
theorem dX3_fewestWithout_4 : decode cX3_fewestWithout 4 = .ok (.invokevirtual 87, 3) := by decide +kernel
theorem dX3_fewestWithout_7 : decode cX3_fewestWithout 7 = .ok (.ifCond .ne 5, 3) := by decide +kernel
theorem dX3_fewestWithout_10 : decode cX3_fewestWithout 10 = .ok (.iconst 0, 1) := by decide +kernel
theorem dX3_fewestWithout_11 : decode cX3_fewestWithout 11 = .ok (.ireturn, 1) := by decide +kernel
theorem dX3_fewestWithout_12 : decode cX3_fewestWithout 12 = .ok (.iload_n 2, 1) := by decide +kernel
theorem dX3_fewestWithout_13 : decode cX3_fewestWithout 13 = .ok (.iload_n 3, 1) := by decide +kernel
theorem dX3_fewestWithout_14 : decode cX3_fewestWithout 14 = .ok (.invokestatic 48, 3) := by decide +kernel
theorem dX3_fewestWithout_17 : decode cX3_fewestWithout 17 = .ok (.istore 4, 2) := by decide +kernel
theorem dX3_fewestWithout_19 : decode cX3_fewestWithout 19 = .ok (.iconst 1, 1) := by decide +kernel
theorem dX3_fewestWithout_20 : decode cX3_fewestWithout 20 = .ok (.istore 5, 2) := by decide +kernel
theorem dX3_fewestWithout_22 : decode cX3_fewestWithout 22 = .ok (.iload 5, 2) := by decide +kernel
theorem dX3_fewestWithout_24 : decode cX3_fewestWithout 24 = .ok (.bipush 67, 2) := by decide +kernel
theorem dX3_fewestWithout_26 : decode cX3_fewestWithout 26 = .ok (.if_icmp .gt 34, 3) := by decide +kernel
theorem dX3_fewestWithout_29 : decode cX3_fewestWithout 29 = .ok (.aload_n 1, 1) := by decide +kernel
theorem dX3_fewestWithout_30 : decode cX3_fewestWithout 30 = .ok (.iload 5, 2) := by decide +kernel
theorem dX3_fewestWithout_32 : decode cX3_fewestWithout 32 = .ok (.invokevirtual 91, 3) := by decide +kernel
theorem dX3_fewestWithout_35 : decode cX3_fewestWithout 35 = .ok (.ifCond .eq 19, 3) := by decide +kernel
theorem dX3_fewestWithout_38 : decode cX3_fewestWithout 38 = .ok (.aload_n 0, 1) := by decide +kernel
theorem dX3_fewestWithout_39 : decode cX3_fewestWithout 39 = .ok (.aload_n 1, 1) := by decide +kernel
theorem dX3_fewestWithout_40 : decode cX3_fewestWithout 40 = .ok (.iload 4, 2) := by decide +kernel
theorem dX3_fewestWithout_42 : decode cX3_fewestWithout 42 = .ok (.iload 5, 2) := by decide +kernel
theorem dX3_fewestWithout_44 : decode cX3_fewestWithout 44 = .ok (.iload 5, 2) := by decide +kernel
theorem dX3_fewestWithout_46 : decode cX3_fewestWithout 46 = .ok (.invokevirtual 94, 3) := by decide +kernel
theorem dX3_fewestWithout_49 : decode cX3_fewestWithout 49 = .ok (.ifCond .eq 5, 3) := by decide +kernel
theorem dX3_fewestWithout_52 : decode cX3_fewestWithout 52 = .ok (.iconst 1, 1) := by decide +kernel
theorem dX3_fewestWithout_53 : decode cX3_fewestWithout 53 = .ok (.ireturn, 1) := by decide +kernel
theorem dX3_fewestWithout_54 : decode cX3_fewestWithout 54 = .ok (.iinc 5 1, 3) := by decide +kernel
theorem dX3_fewestWithout_57 : decode cX3_fewestWithout 57 = .ok (.goto (-35), 3) := by decide +kernel
theorem dX3_fewestWithout_60 : decode cX3_fewestWithout 60 = .ok (.iconst 1, 1) := by decide +kernel
theorem dX3_fewestWithout_61 : decode cX3_fewestWithout 61 = .ok (.istore 5, 2) := by decide +kernel
theorem dX3_fewestWithout_63 : decode cX3_fewestWithout 63 = .ok (.iload 5, 2) := by decide +kernel
theorem dX3_fewestWithout_65 : decode cX3_fewestWithout 65 = .ok (.bipush 67, 2) := by decide +kernel
theorem dX3_fewestWithout_67 : decode cX3_fewestWithout 67 = .ok (.if_icmp .gt 32, 3) := by decide +kernel
theorem dX3_fewestWithout_70 : decode cX3_fewestWithout 70 = .ok (.aload_n 1, 1) := by decide +kernel
theorem dX3_fewestWithout_71 : decode cX3_fewestWithout 71 = .ok (.iload 5, 2) := by decide +kernel
theorem dX3_fewestWithout_73 : decode cX3_fewestWithout 73 = .ok (.invokevirtual 91, 3) := by decide +kernel
theorem dX3_fewestWithout_76 : decode cX3_fewestWithout 76 = .ok (.ifCond .eq 17, 3) := by decide +kernel
theorem dX3_fewestWithout_79 : decode cX3_fewestWithout 79 = .ok (.aload_n 0, 1) := by decide +kernel
theorem dX3_fewestWithout_80 : decode cX3_fewestWithout 80 = .ok (.aload_n 1, 1) := by decide +kernel
theorem dX3_fewestWithout_81 : decode cX3_fewestWithout 81 = .ok (.iload 4, 2) := by decide +kernel
theorem dX3_fewestWithout_83 : decode cX3_fewestWithout 83 = .ok (.iload 5, 2) := by decide +kernel
theorem dX3_fewestWithout_85 : decode cX3_fewestWithout 85 = .ok (.invokevirtual 98, 3) := by decide +kernel
theorem dX3_fewestWithout_88 : decode cX3_fewestWithout 88 = .ok (.ifCond .eq 5, 3) := by decide +kernel
theorem dX3_fewestWithout_91 : decode cX3_fewestWithout 91 = .ok (.iconst 2, 1) := by decide +kernel
theorem dX3_fewestWithout_92 : decode cX3_fewestWithout 92 = .ok (.ireturn, 1) := by decide +kernel
theorem dX3_fewestWithout_93 : decode cX3_fewestWithout 93 = .ok (.iinc 5 1, 3) := by decide +kernel
theorem dX3_fewestWithout_96 : decode cX3_fewestWithout 96 = .ok (.goto (-33), 3) := by decide +kernel
theorem dX3_fewestWithout_99 : decode cX3_fewestWithout 99 = .ok (.bipush (-9), 2) := by decide +kernel
theorem dX3_fewestWithout_101 : decode cX3_fewestWithout 101 = .ok (.ireturn, 1) := by decide +kernel
set_option maxRecDepth 20000 in
theorem ggX3_isNeverWithSecond_X2_isDancedPair : GoodIn wsX3_isNeverWithSecond wsX2_isDancedPair := goodIn_r _ [5, 6, 7, 8, 4, 9, 10, 11, 12, 13, 14, 15, 16, 17, 18, 19, 20, 21, 22, 23, 24, 25, 26, 27, 28, 29, 30, 93, 94, 95, 96, 97, 98] (by decide +kernel) (by decide +kernel)
set_option maxRecDepth 20000 in
theorem gX3_isNeverWithSecond_X2_isDancedPair : GoodIn wsX3_isNeverWithSecond (wsV RX3 91 RX2 yX2_isDancedPair wsX2_isDancedPair) := goodIn_app (goodIn_of _ (by decide +kernel)) ggX3_isNeverWithSecond_X2_isDancedPair
set_option maxRecDepth 20000 in
theorem ggX3_isNeverWithSecond_X3_isNeverWithout : GoodIn wsX3_isNeverWithSecond wsX3_isNeverWithout := goodIn_r _ [35, 36, 37, 38, 39, 40, 41, 42, 43, 44, 45, 46, 47, 48, 49, 50, 51, 52, 53, 54, 55, 56, 4, 57, 58, 59, 60, 61, 62, 63, 10, 11, 12, 13, 14, 64, 65, 66, 67, 68, 69, 70, 71, 72, 73, 74, 75, 76, 29, 30, 77, 78, 79, 80, 81, 82, 83, 84, 85, 86, 87, 88, 89, 90, 91, 92, 99, 93, 94, 95, 96, 97, 98, 100, 101, 102, 103, 104, 105, 106] (by decide +kernel) (by decide +kernel)
set_option maxRecDepth 20000 in
theorem gX3_isNeverWithSecond_X3_isNeverWithout : GoodIn wsX3_isNeverWithSecond (wsV RX3 94 RX3 yX3_isNeverWithout wsX3_isNeverWithout) := goodIn_app (goodIn_of _ (by decide +kernel)) ggX3_isNeverWithSecond_X3_isNeverWithout
theorem dX3_isNeverWithSecond_0 : decode cX3_isNeverWithSecond 0 = .ok (.iload_n 3, 1) := by decide +kernel
theorem dX3_isNeverWithSecond_1 : decode cX3_isNeverWithSecond 1 = .ok (.iconst 1, 1) := by decide +kernel
theorem dX3_isNeverWithSecond_2 : decode cX3_isNeverWithSecond 2 = .ok (.iadd, 1) := by decide +kernel
theorem dX3_isNeverWithSecond_3 : decode cX3_isNeverWithSecond 3 = .ok (.istore 4, 2) := by decide +kernel
theorem dX3_isNeverWithSecond_5 : decode cX3_isNeverWithSecond 5 = .ok (.iload 4, 2) := by decide +kernel
theorem dX3_isNeverWithSecond_7 : decode cX3_isNeverWithSecond 7 = .ok (.bipush 67, 2) := by decide +kernel
theorem dX3_isNeverWithSecond_9 : decode cX3_isNeverWithSecond 9 = .ok (.if_icmp .gt 32, 3) := by decide +kernel
theorem dX3_isNeverWithSecond_12 : decode cX3_isNeverWithSecond 12 = .ok (.aload_n 1, 1) := by decide +kernel
theorem dX3_isNeverWithSecond_13 : decode cX3_isNeverWithSecond 13 = .ok (.iload 4, 2) := by decide +kernel
theorem dX3_isNeverWithSecond_15 : decode cX3_isNeverWithSecond 15 = .ok (.invokevirtual 91, 3) := by decide +kernel
theorem dX3_isNeverWithSecond_18 : decode cX3_isNeverWithSecond 18 = .ok (.ifCond .eq 17, 3) := by decide +kernel
theorem dX3_isNeverWithSecond_21 : decode cX3_isNeverWithSecond 21 = .ok (.aload_n 0, 1) := by decide +kernel
theorem dX3_isNeverWithSecond_22 : decode cX3_isNeverWithSecond 22 = .ok (.aload_n 1, 1) := by decide +kernel
theorem dX3_isNeverWithSecond_23 : decode cX3_isNeverWithSecond 23 = .ok (.iload_n 2, 1) := by decide +kernel
theorem dX3_isNeverWithSecond_24 : decode cX3_isNeverWithSecond 24 = .ok (.iload_n 3, 1) := by decide +kernel
theorem dX3_isNeverWithSecond_25 : decode cX3_isNeverWithSecond 25 = .ok (.iload 4, 2) := by decide +kernel
theorem dX3_isNeverWithSecond_27 : decode cX3_isNeverWithSecond 27 = .ok (.invokevirtual 94, 3) := by decide +kernel
theorem dX3_isNeverWithSecond_30 : decode cX3_isNeverWithSecond 30 = .ok (.ifCond .eq 5, 3) := by decide +kernel
theorem dX3_isNeverWithSecond_33 : decode cX3_isNeverWithSecond 33 = .ok (.iconst 1, 1) := by decide +kernel
theorem dX3_isNeverWithSecond_34 : decode cX3_isNeverWithSecond 34 = .ok (.ireturn, 1) := by decide +kernel
theorem dX3_isNeverWithSecond_35 : decode cX3_isNeverWithSecond 35 = .ok (.iinc 4 1, 3) := by decide +kernel
theorem dX3_isNeverWithSecond_38 : decode cX3_isNeverWithSecond 38 = .ok (.goto (-33), 3) := by decide +kernel
theorem dX3_isNeverWithSecond_41 : decode cX3_isNeverWithSecond 41 = .ok (.iconst 0, 1) := by decide +kernel
theorem dX3_isNeverWithSecond_42 : decode cX3_isNeverWithSecond 42 = .ok (.ireturn, 1) := by decide +kernel
set_option maxRecDepth 20000 in
theorem ggX3_isNeverWithout_X0_begin : GoodIn wsX3_isNeverWithout wsX0_begin := goodIn_r _ [6, 7, 8, 9, 10, 11, 12, 13, 14, 15, 16, 17, 5, 18, 19, 20, 21, 22, 23, 24, 25, 67, 68, 69, 70, 71, 72, 73, 74, 75, 76, 77, 78, 79] (by decide +kernel) (by decide +kernel)
set_option maxRecDepth 20000 in
theorem gX3_isNeverWithout_X0_begin : GoodIn wsX3_isNeverWithout (wsV RX3 18 RX0 yX0_begin wsX0_begin) := goodIn_app (goodIn_of _ (by decide +kernel)) ggX3_isNeverWithout_X0_begin
set_option maxRecDepth 20000 in
theorem ggX3_isNeverWithout_X0_partPair : GoodIn wsX3_isNeverWithout wsX0_partPair := goodIn_r _ [29, 13, 30, 31, 32, 33, 34, 73, 74, 75, 76, 77, 78, 79] (by decide +kernel) (by decide +kernel)
set_option maxRecDepth 20000 in
theorem gX3_isNeverWithout_X0_partPair : GoodIn wsX3_isNeverWithout (wsV RX3 101 RX0 yX0_partPair wsX0_partPair) := goodIn_app (goodIn_of _ (by decide +kernel)) ggX3_isNeverWithout_X0_partPair
set_option maxRecDepth 20000 in
theorem ggX3_isNeverWithout_X0_settle : GoodIn wsX3_isNeverWithout wsX0_settle := goodIn_r _ [38, 39, 40, 41, 5, 42, 8, 43, 13, 12, 44, 45, 46, 47, 48, 31, 49, 50, 51, 52, 53, 15, 11, 10, 54, 55, 56, 57, 58, 59, 60, 61, 62, 63, 64, 73, 74, 75, 76, 77, 78, 79] (by decide +kernel) (by decide +kernel)
set_option maxRecDepth 20000 in
theorem gX3_isNeverWithout_X0_settle : GoodIn wsX3_isNeverWithout (wsV RX3 22 RX0 yX0_settle wsX0_settle) := goodIn_app (goodIn_of _ (by decide +kernel)) ggX3_isNeverWithout_X0_settle
set_option maxRecDepth 20000 in
theorem ggX3_isNeverWithout_X6_lesserOf : GoodIn wsX3_isNeverWithout wsX6_lesserOf := goodIn_r _ [32] (by decide +kernel) (by decide +kernel)
set_option maxRecDepth 20000 in
theorem gX3_isNeverWithout_X6_lesserOf_n76 : GoodIn wsX3_isNeverWithout (wsX6_lesserOf) := ggX3_isNeverWithout_X6_lesserOf
set_option maxRecDepth 20000 in
theorem ggX3_isNeverWithout_X6_greaterOf : GoodIn wsX3_isNeverWithout wsX6_greaterOf := goodIn_r _ [34] (by decide +kernel) (by decide +kernel)
set_option maxRecDepth 20000 in
theorem gX3_isNeverWithout_X6_greaterOf_n80 : GoodIn wsX3_isNeverWithout (wsX6_greaterOf) := ggX3_isNeverWithout_X6_greaterOf
set_option maxRecDepth 20000 in
theorem ggX3_isNeverWithout_X0_haveDanced : GoodIn wsX3_isNeverWithout wsX0_haveDanced := goodIn_r _ [47, 13, 48, 31, 49, 73, 74, 75, 76, 77, 78, 79] (by decide +kernel) (by decide +kernel)
set_option maxRecDepth 20000 in
theorem gX3_isNeverWithout_X0_haveDanced : GoodIn wsX3_isNeverWithout (wsV RX3 29 RX0 yX0_haveDanced wsX0_haveDanced) := goodIn_app (goodIn_of _ (by decide +kernel)) ggX3_isNeverWithout_X0_haveDanced
theorem dX3_isNeverWithout_0 : decode cX3_isNeverWithout 0 = .ok (.aload_n 0, 1) := by decide +kernel
theorem dX3_isNeverWithout_1 : decode cX3_isNeverWithout 1 = .ok (.getfield 11, 3) := by decide +kernel
theorem dX3_isNeverWithout_4 : decode cX3_isNeverWithout 4 = .ok (.iconst 0, 1) := by decide +kernel
theorem dX3_isNeverWithout_5 : decode cX3_isNeverWithout 5 = .ok (.aaload, 1) := by decide +kernel
theorem dX3_isNeverWithout_6 : decode cX3_isNeverWithout 6 = .ok (.astore 5, 2) := by decide +kernel
theorem dX3_isNeverWithout_8 : decode cX3_isNeverWithout 8 = .ok (.aload 5, 2) := by decide +kernel
theorem dX3_isNeverWithout_10 : decode cX3_isNeverWithout 10 = .ok (.aload_n 1, 1) := by decide +kernel
theorem dX3_isNeverWithout_11 : decode cX3_isNeverWithout 11 = .ok (.invokevirtual 18, 3) := by decide +kernel
theorem dX3_isNeverWithout_14 : decode cX3_isNeverWithout 14 = .ok (.aload 5, 2) := by decide +kernel
theorem dX3_isNeverWithout_16 : decode cX3_isNeverWithout 16 = .ok (.iload_n 3, 1) := by decide +kernel
theorem dX3_isNeverWithout_17 : decode cX3_isNeverWithout 17 = .ok (.invokevirtual 101, 3) := by decide +kernel
theorem dX3_isNeverWithout_20 : decode cX3_isNeverWithout 20 = .ok (.aload 5, 2) := by decide +kernel
theorem dX3_isNeverWithout_22 : decode cX3_isNeverWithout 22 = .ok (.iload 4, 2) := by decide +kernel
theorem dX3_isNeverWithout_24 : decode cX3_isNeverWithout 24 = .ok (.invokevirtual 101, 3) := by decide +kernel
theorem dX3_isNeverWithout_27 : decode cX3_isNeverWithout 27 = .ok (.aload 5, 2) := by decide +kernel
theorem dX3_isNeverWithout_29 : decode cX3_isNeverWithout 29 = .ok (.invokevirtual 22, 3) := by decide +kernel
theorem dX3_isNeverWithout_32 : decode cX3_isNeverWithout 32 = .ok (.aload 5, 2) := by decide +kernel
theorem dX3_isNeverWithout_34 : decode cX3_isNeverWithout 34 = .ok (.iload_n 2, 1) := by decide +kernel
theorem dX3_isNeverWithout_35 : decode cX3_isNeverWithout 35 = .ok (.invokestatic 76, 3) := by decide +kernel
theorem dX3_isNeverWithout_38 : decode cX3_isNeverWithout 38 = .ok (.iload_n 2, 1) := by decide +kernel
theorem dX3_isNeverWithout_39 : decode cX3_isNeverWithout 39 = .ok (.invokestatic 80, 3) := by decide +kernel
theorem dX3_isNeverWithout_42 : decode cX3_isNeverWithout 42 = .ok (.invokevirtual 29, 3) := by decide +kernel
theorem dX3_isNeverWithout_45 : decode cX3_isNeverWithout 45 = .ok (.ifCond .ne 7, 3) := by decide +kernel
theorem dX3_isNeverWithout_48 : decode cX3_isNeverWithout 48 = .ok (.iconst 1, 1) := by decide +kernel
theorem dX3_isNeverWithout_49 : decode cX3_isNeverWithout 49 = .ok (.goto 4, 3) := by decide +kernel
theorem dX3_isNeverWithout_52 : decode cX3_isNeverWithout 52 = .ok (.iconst 0, 1) := by decide +kernel
theorem dX3_isNeverWithout_53 : decode cX3_isNeverWithout 53 = .ok (.ireturn, 1) := by decide +kernel
set_option maxRecDepth 20000 in
theorem ggX3_lostWithoutBringer_X3_settled : GoodIn wsX3_lostWithoutBringer wsX3_settled := goodIn_r _ [7, 1, 8, 9, 10, 11, 12, 13, 14, 15, 16, 17, 18, 19, 20, 21, 22, 23, 24, 25, 26, 27, 28, 29, 30, 31, 32, 33, 34, 35, 36, 37, 38, 39, 40, 41, 42, 43, 44, 45, 46, 47, 48, 49, 50, 51, 52, 53, 54, 55, 56, 57, 58, 59, 60, 61, 62, 67, 75, 76, 77, 78, 79, 80, 68, 69, 70, 71, 72, 73, 74] (by decide +kernel) (by decide +kernel)
set_option maxRecDepth 20000 in
theorem gX3_lostWithoutBringer_X3_settled : GoodIn wsX3_lostWithoutBringer (wsV RX3 25 RX3 yX3_settled wsX3_settled) := goodIn_app (goodIn_of _ (by decide +kernel)) ggX3_lostWithoutBringer_X3_settled
set_option maxRecDepth 20000 in
theorem ggX3_lostWithoutBringer_X0_pairs : GoodIn wsX3_lostWithoutBringer wsX0_pairs := goodIn_r _ [66, 14, 19, 56, 57, 58, 59, 60, 61, 62, 68, 69, 70, 71, 72, 73, 74] (by decide +kernel) (by decide +kernel)
set_option maxRecDepth 20000 in
theorem gX3_lostWithoutBringer_X0_pairs : GoodIn wsX3_lostWithoutBringer (wsV RX3 41 RX0 yX0_pairs wsX0_pairs) := goodIn_app (goodIn_of _ (by decide +kernel)) ggX3_lostWithoutBringer_X0_pairs
set_option maxRecDepth 20000 in
theorem ggX3_lostWithoutBringer_X0_begin : GoodIn wsX3_lostWithoutBringer wsX0_begin := goodIn_r _ [12, 13, 14, 15, 16, 17, 18, 19, 20, 21, 22, 23, 11, 24, 25, 26, 27, 28, 29, 30, 31, 75, 76, 77, 78, 79, 80, 68, 69, 70, 71, 72, 73, 74] (by decide +kernel) (by decide +kernel)
set_option maxRecDepth 20000 in
theorem gX3_lostWithoutBringer_X0_begin : GoodIn wsX3_lostWithoutBringer (wsV RX3 18 RX0 yX0_begin wsX0_begin) := goodIn_app (goodIn_of _ (by decide +kernel)) ggX3_lostWithoutBringer_X0_begin
set_option maxRecDepth 20000 in
theorem ggX3_lostWithoutBringer_X0_settle : GoodIn wsX3_lostWithoutBringer wsX0_settle := goodIn_r _ [35, 36, 37, 38, 11, 39, 14, 40, 19, 18, 41, 42, 43, 44, 45, 46, 47, 48, 49, 50, 51, 21, 17, 16, 52, 53, 54, 55, 56, 57, 58, 59, 60, 61, 62, 68, 69, 70, 71, 72, 73, 74] (by decide +kernel) (by decide +kernel)
set_option maxRecDepth 20000 in
theorem gX3_lostWithoutBringer_X0_settle : GoodIn wsX3_lostWithoutBringer (wsV RX3 22 RX0 yX0_settle wsX0_settle) := goodIn_app (goodIn_of _ (by decide +kernel)) ggX3_lostWithoutBringer_X0_settle
theorem dX3_lostWithoutBringer_0 : decode cX3_lostWithoutBringer 0 = .ok (.aload_n 0, 1) := by decide +kernel
theorem dX3_lostWithoutBringer_1 : decode cX3_lostWithoutBringer 1 = .ok (.aload_n 1, 1) := by decide +kernel
theorem dX3_lostWithoutBringer_2 : decode cX3_lostWithoutBringer 2 = .ok (.invokevirtual 25, 3) := by decide +kernel
theorem dX3_lostWithoutBringer_5 : decode cX3_lostWithoutBringer 5 = .ok (.invokevirtual 41, 3) := by decide +kernel
theorem dX3_lostWithoutBringer_8 : decode cX3_lostWithoutBringer 8 = .ok (.istore_n 3, 1) := by decide +kernel
theorem dX3_lostWithoutBringer_9 : decode cX3_lostWithoutBringer 9 = .ok (.aload_n 0, 1) := by decide +kernel
theorem dX3_lostWithoutBringer_10 : decode cX3_lostWithoutBringer 10 = .ok (.getfield 11, 3) := by decide +kernel
theorem dX3_lostWithoutBringer_13 : decode cX3_lostWithoutBringer 13 = .ok (.iconst 0, 1) := by decide +kernel
theorem dX3_lostWithoutBringer_14 : decode cX3_lostWithoutBringer 14 = .ok (.aaload, 1) := by decide +kernel
theorem dX3_lostWithoutBringer_15 : decode cX3_lostWithoutBringer 15 = .ok (.astore 4, 2) := by decide +kernel
theorem dX3_lostWithoutBringer_17 : decode cX3_lostWithoutBringer 17 = .ok (.aload 4, 2) := by decide +kernel
theorem dX3_lostWithoutBringer_19 : decode cX3_lostWithoutBringer 19 = .ok (.aload_n 1, 1) := by decide +kernel
theorem dX3_lostWithoutBringer_20 : decode cX3_lostWithoutBringer 20 = .ok (.invokevirtual 18, 3) := by decide +kernel
theorem dX3_lostWithoutBringer_23 : decode cX3_lostWithoutBringer 23 = .ok (.aload 4, 2) := by decide +kernel
theorem dX3_lostWithoutBringer_25 : decode cX3_lostWithoutBringer 25 = .ok (.dup, 1) := by decide +kernel
theorem dX3_lostWithoutBringer_26 : decode cX3_lostWithoutBringer 26 = .ok (.getfield 104, 3) := by decide +kernel
theorem dX3_lostWithoutBringer_29 : decode cX3_lostWithoutBringer 29 = .ok (.iconst 1, 1) := by decide +kernel
theorem dX3_lostWithoutBringer_30 : decode cX3_lostWithoutBringer 30 = .ok (.iload_n 2, 1) := by decide +kernel
theorem dX3_lostWithoutBringer_31 : decode cX3_lostWithoutBringer 31 = .ok (.ishl, 1) := by decide +kernel
theorem dX3_lostWithoutBringer_32 : decode cX3_lostWithoutBringer 32 = .ok (.iconst (-1), 1) := by decide +kernel
theorem dX3_lostWithoutBringer_33 : decode cX3_lostWithoutBringer 33 = .ok (.ixor, 1) := by decide +kernel
theorem dX3_lostWithoutBringer_34 : decode cX3_lostWithoutBringer 34 = .ok (.iand, 1) := by decide +kernel
theorem dX3_lostWithoutBringer_35 : decode cX3_lostWithoutBringer 35 = .ok (.putfield 104, 3) := by decide +kernel
theorem dX3_lostWithoutBringer_38 : decode cX3_lostWithoutBringer 38 = .ok (.aload 4, 2) := by decide +kernel
theorem dX3_lostWithoutBringer_40 : decode cX3_lostWithoutBringer 40 = .ok (.invokevirtual 22, 3) := by decide +kernel
theorem dX3_lostWithoutBringer_43 : decode cX3_lostWithoutBringer 43 = .ok (.iload_n 3, 1) := by decide +kernel
theorem dX3_lostWithoutBringer_44 : decode cX3_lostWithoutBringer 44 = .ok (.aload 4, 2) := by decide +kernel
theorem dX3_lostWithoutBringer_46 : decode cX3_lostWithoutBringer 46 = .ok (.invokevirtual 41, 3) := by decide +kernel
theorem dX3_lostWithoutBringer_49 : decode cX3_lostWithoutBringer 49 = .ok (.isub, 1) := by decide +kernel
theorem dX3_lostWithoutBringer_50 : decode cX3_lostWithoutBringer 50 = .ok (.ireturn, 1) := by decide +kernel
set_option maxRecDepth 20000 in
theorem ggX4_init_X2_init : GoodIn wsX4_init wsX2_init := goodIn_r _ [13, 14, 2, 3, 15, 16, 5, 17, 18, 19, 20, 24, 25, 26, 27, 28, 29] (by decide +kernel) (by decide +kernel)
set_option maxRecDepth 20000 in
theorem gX4_init_X2_init : GoodIn wsX4_init (wsX2_init) := ggX4_init_X2_init
theorem dX4_init_0 : decode cX4_init 0 = .ok (.aload_n 0, 1) := by decide +kernel
theorem dX4_init_1 : decode cX4_init 1 = .ok (.invokespecial 3, 3) := by decide +kernel
theorem dX4_init_4 : decode cX4_init 4 = .ok (.aload_n 0, 1) := by decide +kernel
theorem dX4_init_5 : decode cX4_init 5 = .ok (.iconst 0, 1) := by decide +kernel
theorem dX4_init_6 : decode cX4_init 6 = .ok (.putfield 9, 3) := by decide +kernel
theorem dX4_init_9 : decode cX4_init 9 = .ok (.aload_n 0, 1) := by decide +kernel
theorem dX4_init_10 : decode cX4_init 10 = .ok (.bipush 64, 2) := by decide +kernel
theorem dX4_init_12 : decode cX4_init 12 = .ok (.newarray .int, 2) := by decide +kernel
theorem dX4_init_14 : decode cX4_init 14 = .ok (.putfield 15, 3) := by decide +kernel
theorem dX4_init_17 : decode cX4_init 17 = .ok (.aload_n 0, 1) := by decide +kernel
theorem dX4_init_18 : decode cX4_init 18 = .ok (.new 19, 3) := by decide +kernel
theorem dX4_init_21 : decode cX4_init 21 = .ok (.dup, 1) := by decide +kernel
theorem dX4_init_22 : decode cX4_init 22 = .ok (.invokespecial 21, 3) := by decide +kernel
theorem dX4_init_25 : decode cX4_init 25 = .ok (.putfield 22, 3) := by decide +kernel
theorem dX4_init_28 : decode cX4_init 28 = .ok (.return_, 1) := by decide +kernel
theorem dX4_append_0 : decode cX4_append 0 = .ok (.aload_n 0, 1) := by decide +kernel
theorem dX4_append_1 : decode cX4_append 1 = .ok (.getfield 9, 3) := by decide +kernel
theorem dX4_append_4 : decode cX4_append 4 = .ok (.bipush 64, 2) := by decide +kernel
theorem dX4_append_6 : decode cX4_append 6 = .ok (.if_icmp .ge 23, 3) := by decide +kernel
theorem dX4_append_9 : decode cX4_append 9 = .ok (.aload_n 0, 1) := by decide +kernel
theorem dX4_append_10 : decode cX4_append 10 = .ok (.getfield 15, 3) := by decide +kernel
theorem dX4_append_13 : decode cX4_append 13 = .ok (.aload_n 0, 1) := by decide +kernel
theorem dX4_append_14 : decode cX4_append 14 = .ok (.getfield 9, 3) := by decide +kernel
theorem dX4_append_17 : decode cX4_append 17 = .ok (.iload_n 1, 1) := by decide +kernel
theorem dX4_append_18 : decode cX4_append 18 = .ok (.iastore, 1) := by decide +kernel
theorem dX4_append_19 : decode cX4_append 19 = .ok (.aload_n 0, 1) := by decide +kernel
theorem dX4_append_20 : decode cX4_append 20 = .ok (.dup, 1) := by decide +kernel
theorem dX4_append_21 : decode cX4_append 21 = .ok (.getfield 9, 3) := by decide +kernel
theorem dX4_append_24 : decode cX4_append 24 = .ok (.iconst 1, 1) := by decide +kernel
theorem dX4_append_25 : decode cX4_append 25 = .ok (.iadd, 1) := by decide +kernel
theorem dX4_append_26 : decode cX4_append 26 = .ok (.putfield 9, 3) := by decide +kernel
theorem dX4_append_29 : decode cX4_append 29 = .ok (.aload_n 0, 1) := by decide +kernel
theorem dX4_append_30 : decode cX4_append 30 = .ok (.getfield 9, 3) := by decide +kernel
theorem dX4_append_33 : decode cX4_append 33 = .ok (.ireturn, 1) := by decide +kernel
set_option maxRecDepth 20000 in
theorem ggX4_tellAll_X4_firstWrongLetter : GoodIn wsX4_tellAll wsX4_firstWrongLetter := goodIn_r _ [7, 8, 9, 10, 11, 6, 12, 55, 56, 57] (by decide +kernel) (by decide +kernel)
set_option maxRecDepth 20000 in
theorem gX4_tellAll_X4_firstWrongLetter : GoodIn wsX4_tellAll (wsV RX4 26 RX4 yX4_firstWrongLetter wsX4_firstWrongLetter) := goodIn_app (goodIn_of _ (by decide +kernel)) ggX4_tellAll_X4_firstWrongLetter
set_option maxRecDepth 20000 in
theorem ggX4_tellAll_X2_copyFrom : GoodIn wsX4_tellAll wsX2_copyFrom := goodIn_r _ [17, 18, 19, 20, 21, 22, 23, 58, 59, 60, 61, 62, 63] (by decide +kernel) (by decide +kernel)
set_option maxRecDepth 20000 in
theorem gX4_tellAll_X2_copyFrom : GoodIn wsX4_tellAll (wsV RX4 30 RX2 yX2_copyFrom wsX2_copyFrom) := goodIn_app (goodIn_of _ (by decide +kernel)) ggX4_tellAll_X2_copyFrom
set_option maxRecDepth 20000 in
theorem ggX4_tellAll_X4_isCarriedOut : GoodIn wsX4_tellAll wsX4_isCarriedOut := goodIn_r _ [27, 8, 2, 28, 29, 30, 6, 31, 32, 33, 34, 16, 35, 18, 20, 21, 22, 23, 36, 37, 38, 39, 40, 41, 42, 43, 44, 45, 46, 47, 48, 49, 50, 51, 19, 52, 53, 54, 55, 56, 57, 58, 59, 60, 61, 62, 63] (by decide +kernel) (by decide +kernel)
set_option maxRecDepth 20000 in
theorem gX4_tellAll_X4_isCarriedOut : GoodIn wsX4_tellAll (wsV RX4 34 RX4 yX4_isCarriedOut wsX4_isCarriedOut) := goodIn_app (goodIn_of _ (by decide +kernel)) ggX4_tellAll_X4_isCarriedOut
set_option maxRecDepth 20000 in
theorem ggX4_tellAll_X4_digitsBehind : GoodIn wsX4_tellAll wsX4_digitsBehind := goodIn_r _ [12, 8, 55, 56, 57] (by decide +kernel) (by decide +kernel)
set_option maxRecDepth 20000 in
theorem gX4_tellAll_X4_digitsBehind : GoodIn wsX4_tellAll (wsV RX4 38 RX4 yX4_digitsBehind wsX4_digitsBehind) := goodIn_app (goodIn_of _ (by decide +kernel)) ggX4_tellAll_X4_digitsBehind
theorem dX4_tellAll_0 : decode cX4_tellAll 0 = .ok (.aload_n 0, 1) := by decide +kernel
theorem dX4_tellAll_1 : decode cX4_tellAll 1 = .ok (.getfield 9, 3) := by decide +kernel
theorem dX4_tellAll_4 : decode cX4_tellAll 4 = .ok (.istore_n 2, 1) := by decide +kernel
theorem dX4_tellAll_5 : decode cX4_tellAll 5 = .ok (.aload_n 0, 1) := by decide +kernel
theorem dX4_tellAll_6 : decode cX4_tellAll 6 = .ok (.iconst 0, 1) := by decide +kernel
theorem dX4_tellAll_7 : decode cX4_tellAll 7 = .ok (.putfield 9, 3) := by decide +kernel
theorem dX4_tellAll_10 : decode cX4_tellAll 10 = .ok (.aload_n 0, 1) := by decide +kernel
theorem dX4_tellAll_11 : decode cX4_tellAll 11 = .ok (.iload_n 2, 1) := by decide +kernel
theorem dX4_tellAll_12 : decode cX4_tellAll 12 = .ok (.invokevirtual 26, 3) := by decide +kernel
theorem dX4_tellAll_15 : decode cX4_tellAll 15 = .ok (.istore_n 3, 1) := by decide +kernel
theorem dX4_tellAll_16 : decode cX4_tellAll 16 = .ok (.iload_n 3, 1) := by decide +kernel
theorem dX4_tellAll_17 : decode cX4_tellAll 17 = .ok (.ifCond .lt 9, 3) := by decide +kernel
theorem dX4_tellAll_20 : decode cX4_tellAll 20 = .ok (.sipush (-1000), 3) := by decide +kernel
theorem dX4_tellAll_23 : decode cX4_tellAll 23 = .ok (.iload_n 3, 1) := by decide +kernel
theorem dX4_tellAll_24 : decode cX4_tellAll 24 = .ok (.isub, 1) := by decide +kernel
theorem dX4_tellAll_25 : decode cX4_tellAll 25 = .ok (.ireturn, 1) := by decide +kernel
theorem dX4_tellAll_26 : decode cX4_tellAll 26 = .ok (.aload_n 0, 1) := by decide +kernel
theorem dX4_tellAll_27 : decode cX4_tellAll 27 = .ok (.getfield 22, 3) := by decide +kernel
theorem dX4_tellAll_30 : decode cX4_tellAll 30 = .ok (.aload_n 1, 1) := by decide +kernel
theorem dX4_tellAll_31 : decode cX4_tellAll 31 = .ok (.invokevirtual 30, 3) := by decide +kernel
theorem dX4_tellAll_34 : decode cX4_tellAll 34 = .ok (.iconst 0, 1) := by decide +kernel
theorem dX4_tellAll_35 : decode cX4_tellAll 35 = .ok (.istore 4, 2) := by decide +kernel
theorem dX4_tellAll_37 : decode cX4_tellAll 37 = .ok (.iconst 0, 1) := by decide +kernel
theorem dX4_tellAll_38 : decode cX4_tellAll 38 = .ok (.istore 5, 2) := by decide +kernel
theorem dX4_tellAll_40 : decode cX4_tellAll 40 = .ok (.iload 5, 2) := by decide +kernel
theorem dX4_tellAll_42 : decode cX4_tellAll 42 = .ok (.iload_n 2, 1) := by decide +kernel
theorem dX4_tellAll_43 : decode cX4_tellAll 43 = .ok (.if_icmp .ge 38, 3) := by decide +kernel
theorem dX4_tellAll_46 : decode cX4_tellAll 46 = .ok (.aload_n 0, 1) := by decide +kernel
theorem dX4_tellAll_47 : decode cX4_tellAll 47 = .ok (.iload 5, 2) := by decide +kernel
theorem dX4_tellAll_49 : decode cX4_tellAll 49 = .ok (.invokevirtual 34, 3) := by decide +kernel
theorem dX4_tellAll_52 : decode cX4_tellAll 52 = .ok (.ifCond .ne 10, 3) := by decide +kernel
theorem dX4_tellAll_55 : decode cX4_tellAll 55 = .ok (.sipush (-2000), 3) := by decide +kernel
theorem dX4_tellAll_58 : decode cX4_tellAll 58 = .ok (.iload 5, 2) := by decide +kernel
theorem dX4_tellAll_60 : decode cX4_tellAll 60 = .ok (.isub, 1) := by decide +kernel
theorem dX4_tellAll_61 : decode cX4_tellAll 61 = .ok (.ireturn, 1) := by decide +kernel
theorem dX4_tellAll_62 : decode cX4_tellAll 62 = .ok (.iinc 4 1, 3) := by decide +kernel
theorem dX4_tellAll_65 : decode cX4_tellAll 65 = .ok (.iload 5, 2) := by decide +kernel
theorem dX4_tellAll_67 : decode cX4_tellAll 67 = .ok (.aload_n 0, 1) := by decide +kernel
theorem dX4_tellAll_68 : decode cX4_tellAll 68 = .ok (.iload 5, 2) := by decide +kernel
theorem dX4_tellAll_70 : decode cX4_tellAll 70 = .ok (.invokevirtual 38, 3) := by decide +kernel
theorem dX4_tellAll_73 : decode cX4_tellAll 73 = .ok (.iconst 2, 1) := by decide +kernel
theorem dX4_tellAll_74 : decode cX4_tellAll 74 = .ok (.iadd, 1) := by decide +kernel
theorem dX4_tellAll_75 : decode cX4_tellAll 75 = .ok (.iadd, 1) := by decide +kernel
theorem dX4_tellAll_76 : decode cX4_tellAll 76 = .ok (.istore 5, 2) := by decide +kernel
theorem dX4_tellAll_78 : decode cX4_tellAll 78 = .ok (.goto (-38), 3) := by decide +kernel
theorem dX4_tellAll_81 : decode cX4_tellAll 81 = .ok (.aload_n 1, 1) := by decide +kernel
theorem dX4_tellAll_82 : decode cX4_tellAll 82 = .ok (.aload_n 0, 1) := by decide +kernel
theorem dX4_tellAll_83 : decode cX4_tellAll 83 = .ok (.getfield 22, 3) := by decide +kernel
theorem dX4_tellAll_86 : decode cX4_tellAll 86 = .ok (.invokevirtual 30, 3) := by decide +kernel
theorem dX4_tellAll_89 : decode cX4_tellAll 89 = .ok (.iload 4, 2) := by decide +kernel
theorem dX4_tellAll_91 : decode cX4_tellAll 91 = .ok (.ireturn, 1) := by decide +kernel
set_option maxRecDepth 20000 in
theorem ggX4_firstWrongLetter_X4_digitsBehind : GoodIn wsX4_firstWrongLetter wsX4_digitsBehind := goodIn_r _ [6, 1, 7, 8, 9] (by decide +kernel) (by decide +kernel)
set_option maxRecDepth 20000 in
theorem gX4_firstWrongLetter_X4_digitsBehind : GoodIn wsX4_firstWrongLetter (wsV RX4 38 RX4 yX4_digitsBehind wsX4_digitsBehind) := goodIn_app (goodIn_of _ (by decide +kernel)) ggX4_firstWrongLetter_X4_digitsBehind
theorem dX4_firstWrongLetter_0 : decode cX4_firstWrongLetter 0 = .ok (.iload_n 1, 1) := by decide +kernel
theorem dX4_firstWrongLetter_1 : decode cX4_firstWrongLetter 1 = .ok (.ifCond .ne 5, 3) := by decide +kernel
theorem dX4_firstWrongLetter_4 : decode cX4_firstWrongLetter 4 = .ok (.iconst 0, 1) := by decide +kernel
theorem dX4_firstWrongLetter_5 : decode cX4_firstWrongLetter 5 = .ok (.ireturn, 1) := by decide +kernel
theorem dX4_firstWrongLetter_6 : decode cX4_firstWrongLetter 6 = .ok (.iconst 0, 1) := by decide +kernel
theorem dX4_firstWrongLetter_7 : decode cX4_firstWrongLetter 7 = .ok (.istore_n 2, 1) := by decide +kernel
theorem dX4_firstWrongLetter_8 : decode cX4_firstWrongLetter 8 = .ok (.iload_n 2, 1) := by decide +kernel
theorem dX4_firstWrongLetter_9 : decode cX4_firstWrongLetter 9 = .ok (.iload_n 1, 1) := by decide +kernel
theorem dX4_firstWrongLetter_10 : decode cX4_firstWrongLetter 10 = .ok (.if_icmp .ge 89, 3) := by decide +kernel
theorem dX4_firstWrongLetter_13 : decode cX4_firstWrongLetter 13 = .ok (.aload_n 0, 1) := by decide +kernel
theorem dX4_firstWrongLetter_14 : decode cX4_firstWrongLetter 14 = .ok (.iload_n 2, 1) := by decide +kernel
theorem dX4_firstWrongLetter_15 : decode cX4_firstWrongLetter 15 = .ok (.invokevirtual 38, 3) := by decide +kernel
theorem dX4_firstWrongLetter_18 : decode cX4_firstWrongLetter 18 = .ok (.istore_n 3, 1) := by decide +kernel
theorem dX4_firstWrongLetter_19 : decode cX4_firstWrongLetter 19 = .ok (.iload_n 3, 1) := by decide +kernel
theorem dX4_firstWrongLetter_20 : decode cX4_firstWrongLetter 20 = .ok (.ifCond .ne 5, 3) := by decide +kernel
theorem dX4_firstWrongLetter_23 : decode cX4_firstWrongLetter 23 = .ok (.iload_n 2, 1) := by decide +kernel
theorem dX4_firstWrongLetter_24 : decode cX4_firstWrongLetter 24 = .ok (.ireturn, 1) := by decide +kernel
theorem dX4_firstWrongLetter_25 : decode cX4_firstWrongLetter 25 = .ok (.iinc 2 1, 3) := by decide +kernel
theorem dX4_firstWrongLetter_28 : decode cX4_firstWrongLetter 28 = .ok (.iconst 0, 1) := by decide +kernel
theorem dX4_firstWrongLetter_29 : decode cX4_firstWrongLetter 29 = .ok (.istore 4, 2) := by decide +kernel
theorem dX4_firstWrongLetter_31 : decode cX4_firstWrongLetter 31 = .ok (.iload 4, 2) := by decide +kernel
theorem dX4_firstWrongLetter_33 : decode cX4_firstWrongLetter 33 = .ok (.iload_n 3, 1) := by decide +kernel
theorem dX4_firstWrongLetter_34 : decode cX4_firstWrongLetter 34 = .ok (.if_icmp .ge 41, 3) := by decide +kernel
theorem dX4_firstWrongLetter_37 : decode cX4_firstWrongLetter 37 = .ok (.iload_n 2, 1) := by decide +kernel
theorem dX4_firstWrongLetter_38 : decode cX4_firstWrongLetter 38 = .ok (.iload_n 1, 1) := by decide +kernel
theorem dX4_firstWrongLetter_39 : decode cX4_firstWrongLetter 39 = .ok (.if_icmp .ge 25, 3) := by decide +kernel
theorem dX4_firstWrongLetter_42 : decode cX4_firstWrongLetter 42 = .ok (.aload_n 0, 1) := by decide +kernel
theorem dX4_firstWrongLetter_43 : decode cX4_firstWrongLetter 43 = .ok (.getfield 15, 3) := by decide +kernel
theorem dX4_firstWrongLetter_46 : decode cX4_firstWrongLetter 46 = .ok (.iload_n 2, 1) := by decide +kernel
theorem dX4_firstWrongLetter_47 : decode cX4_firstWrongLetter 47 = .ok (.iaload, 1) := by decide +kernel
theorem dX4_firstWrongLetter_48 : decode cX4_firstWrongLetter 48 = .ok (.bipush 48, 2) := by decide +kernel
theorem dX4_firstWrongLetter_50 : decode cX4_firstWrongLetter 50 = .ok (.if_icmp .lt 14, 3) := by decide +kernel
theorem dX4_firstWrongLetter_53 : decode cX4_firstWrongLetter 53 = .ok (.aload_n 0, 1) := by decide +kernel
theorem dX4_firstWrongLetter_54 : decode cX4_firstWrongLetter 54 = .ok (.getfield 15, 3) := by decide +kernel
theorem dX4_firstWrongLetter_57 : decode cX4_firstWrongLetter 57 = .ok (.iload_n 2, 1) := by decide +kernel
theorem dX4_firstWrongLetter_58 : decode cX4_firstWrongLetter 58 = .ok (.iaload, 1) := by decide +kernel
theorem dX4_firstWrongLetter_59 : decode cX4_firstWrongLetter 59 = .ok (.bipush 57, 2) := by decide +kernel
theorem dX4_firstWrongLetter_61 : decode cX4_firstWrongLetter 61 = .ok (.if_icmp .le 5, 3) := by decide +kernel
theorem dX4_firstWrongLetter_64 : decode cX4_firstWrongLetter 64 = .ok (.iload_n 2, 1) := by decide +kernel
theorem dX4_firstWrongLetter_65 : decode cX4_firstWrongLetter 65 = .ok (.ireturn, 1) := by decide +kernel
theorem dX4_firstWrongLetter_66 : decode cX4_firstWrongLetter 66 = .ok (.iinc 2 1, 3) := by decide +kernel
theorem dX4_firstWrongLetter_69 : decode cX4_firstWrongLetter 69 = .ok (.iinc 4 1, 3) := by decide +kernel
theorem dX4_firstWrongLetter_72 : decode cX4_firstWrongLetter 72 = .ok (.goto (-41), 3) := by decide +kernel
theorem dX4_firstWrongLetter_75 : decode cX4_firstWrongLetter 75 = .ok (.iload_n 2, 1) := by decide +kernel
theorem dX4_firstWrongLetter_76 : decode cX4_firstWrongLetter 76 = .ok (.iload_n 1, 1) := by decide +kernel
theorem dX4_firstWrongLetter_77 : decode cX4_firstWrongLetter 77 = .ok (.if_icmp .ge 14, 3) := by decide +kernel
theorem dX4_firstWrongLetter_80 : decode cX4_firstWrongLetter 80 = .ok (.aload_n 0, 1) := by decide +kernel
theorem dX4_firstWrongLetter_81 : decode cX4_firstWrongLetter 81 = .ok (.getfield 15, 3) := by decide +kernel
theorem dX4_firstWrongLetter_84 : decode cX4_firstWrongLetter 84 = .ok (.iload_n 2, 1) := by decide +kernel
theorem dX4_firstWrongLetter_85 : decode cX4_firstWrongLetter 85 = .ok (.iaload, 1) := by decide +kernel
theorem dX4_firstWrongLetter_86 : decode cX4_firstWrongLetter 86 = .ok (.bipush 59, 2) := by decide +kernel
theorem dX4_firstWrongLetter_88 : decode cX4_firstWrongLetter 88 = .ok (.if_icmp .eq 5, 3) := by decide +kernel
theorem dX4_firstWrongLetter_91 : decode cX4_firstWrongLetter 91 = .ok (.iload_n 2, 1) := by decide +kernel
theorem dX4_firstWrongLetter_92 : decode cX4_firstWrongLetter 92 = .ok (.ireturn, 1) := by decide +kernel
theorem dX4_firstWrongLetter_93 : decode cX4_firstWrongLetter 93 = .ok (.iinc 2 1, 3) := by decide +kernel
theorem dX4_firstWrongLetter_96 : decode cX4_firstWrongLetter 96 = .ok (.goto (-88), 3) := by decide +kernel
theorem dX4_firstWrongLetter_99 : decode cX4_firstWrongLetter 99 = .ok (.iconst (-1), 1) := by decide +kernel
theorem dX4_firstWrongLetter_100 : decode cX4_firstWrongLetter 100 = .ok (.ireturn, 1) := by decide +kernel
theorem dX4_digitsBehind_0 : decode cX4_digitsBehind 0 = .ok (.aload_n 0, 1) := by decide +kernel
theorem dX4_digitsBehind_1 : decode cX4_digitsBehind 1 = .ok (.getfield 15, 3) := by decide +kernel
theorem dX4_digitsBehind_4 : decode cX4_digitsBehind 4 = .ok (.iload_n 1, 1) := by decide +kernel
theorem dX4_digitsBehind_5 : decode cX4_digitsBehind 5 = .ok (.iaload, 1) := by decide +kernel
theorem dX4_digitsBehind_6 : decode cX4_digitsBehind 6 = .ok (.lookupswitch 38 #[(100, 34), (108, 36), (112, 34)], 34) := by decide +kernel
theorem dX4_digitsBehind_40 : decode cX4_digitsBehind 40 = .ok (.iconst 2, 1) := by decide +kernel
theorem dX4_digitsBehind_41 : decode cX4_digitsBehind 41 = .ok (.ireturn, 1) := by decide +kernel
theorem dX4_digitsBehind_42 : decode cX4_digitsBehind 42 = .ok (.iconst 1, 1) := by decide +kernel
theorem dX4_digitsBehind_43 : decode cX4_digitsBehind 43 = .ok (.ireturn, 1) := by decide +kernel
theorem dX4_digitsBehind_44 : decode cX4_digitsBehind 44 = .ok (.iconst 0, 1) := by decide +kernel
theorem dX4_digitsBehind_45 : decode cX4_digitsBehind 45 = .ok (.ireturn, 1) := by decide +kernel
set_option maxRecDepth 20000 in
theorem ggX4_isCarriedOut_X4_digitAt : GoodIn wsX4_isCarriedOut wsX4_digitAt := goodIn_r _ [7, 1, 38, 39, 40] (by decide +kernel) (by decide +kernel)
set_option maxRecDepth 20000 in
theorem gX4_isCarriedOut_X4_digitAt : GoodIn wsX4_isCarriedOut (wsV RX4 41 RX4 yX4_digitAt wsX4_digitAt) := goodIn_app (goodIn_of _ (by decide +kernel)) ggX4_isCarriedOut_X4_digitAt
set_option maxRecDepth 20000 in
theorem ggX4_isCarriedOut_X2_admit : GoodIn wsX4_isCarriedOut wsX2_admit := goodIn_r _ [12, 13, 14, 15, 16, 17, 41, 42, 43, 44, 45, 46] (by decide +kernel) (by decide +kernel)
set_option maxRecDepth 20000 in
theorem gX4_isCarriedOut_X2_admit : GoodIn wsX4_isCarriedOut (wsV RX4 44 RX2 yX2_admit wsX2_admit) := goodIn_app (goodIn_of _ (by decide +kernel)) ggX4_isCarriedOut_X2_admit
set_option maxRecDepth 20000 in
theorem ggX4_isCarriedOut_X2_join : GoodIn wsX4_isCarriedOut wsX2_join := goodIn_r _ [21, 17, 22, 23, 24, 11, 25, 26, 27, 28, 29, 13, 41, 42, 43, 44, 45, 46] (by decide +kernel) (by decide +kernel)
set_option maxRecDepth 20000 in
theorem gX4_isCarriedOut_X2_join : GoodIn wsX4_isCarriedOut (wsV RX4 48 RX2 yX2_join wsX2_join) := goodIn_app (goodIn_of _ (by decide +kernel)) ggX4_isCarriedOut_X2_join
set_option maxRecDepth 20000 in
theorem ggX4_isCarriedOut_X2_changeLaw : GoodIn wsX4_isCarriedOut wsX2_changeLaw := goodIn_r _ [33, 34, 35, 36, 37, 41, 42, 43, 44, 45, 46] (by decide +kernel) (by decide +kernel)
set_option maxRecDepth 20000 in
theorem gX4_isCarriedOut_X2_changeLaw : GoodIn wsX4_isCarriedOut (wsV RX4 51 RX2 yX2_changeLaw wsX2_changeLaw) := goodIn_app (goodIn_of _ (by decide +kernel)) ggX4_isCarriedOut_X2_changeLaw
theorem dX4_isCarriedOut_0 : decode cX4_isCarriedOut 0 = .ok (.aload_n 0, 1) := by decide +kernel
theorem dX4_isCarriedOut_1 : decode cX4_isCarriedOut 1 = .ok (.getfield 15, 3) := by decide +kernel
theorem dX4_isCarriedOut_4 : decode cX4_isCarriedOut 4 = .ok (.iload_n 1, 1) := by decide +kernel
theorem dX4_isCarriedOut_5 : decode cX4_isCarriedOut 5 = .ok (.iaload, 1) := by decide +kernel
theorem dX4_isCarriedOut_6 : decode cX4_isCarriedOut 6 = .ok (.lookupswitch 70 #[(100, 26), (112, 48)], 26) := by decide +kernel
theorem dX4_isCarriedOut_32 : decode cX4_isCarriedOut 32 = .ok (.aload_n 0, 1) := by decide +kernel
theorem dX4_isCarriedOut_33 : decode cX4_isCarriedOut 33 = .ok (.getfield 22, 3) := by decide +kernel
theorem dX4_isCarriedOut_36 : decode cX4_isCarriedOut 36 = .ok (.aload_n 0, 1) := by decide +kernel
theorem dX4_isCarriedOut_37 : decode cX4_isCarriedOut 37 = .ok (.iload_n 1, 1) := by decide +kernel
theorem dX4_isCarriedOut_38 : decode cX4_isCarriedOut 38 = .ok (.iconst 1, 1) := by decide +kernel
theorem dX4_isCarriedOut_39 : decode cX4_isCarriedOut 39 = .ok (.iadd, 1) := by decide +kernel
theorem dX4_isCarriedOut_40 : decode cX4_isCarriedOut 40 = .ok (.invokevirtual 41, 3) := by decide +kernel
theorem dX4_isCarriedOut_43 : decode cX4_isCarriedOut 43 = .ok (.aload_n 0, 1) := by decide +kernel
theorem dX4_isCarriedOut_44 : decode cX4_isCarriedOut 44 = .ok (.iload_n 1, 1) := by decide +kernel
theorem dX4_isCarriedOut_45 : decode cX4_isCarriedOut 45 = .ok (.iconst 2, 1) := by decide +kernel
theorem dX4_isCarriedOut_46 : decode cX4_isCarriedOut 46 = .ok (.iadd, 1) := by decide +kernel
theorem dX4_isCarriedOut_47 : decode cX4_isCarriedOut 47 = .ok (.invokevirtual 41, 3) := by decide +kernel
theorem dX4_isCarriedOut_50 : decode cX4_isCarriedOut 50 = .ok (.invokevirtual 44, 3) := by decide +kernel
theorem dX4_isCarriedOut_53 : decode cX4_isCarriedOut 53 = .ok (.ireturn, 1) := by decide +kernel
theorem dX4_isCarriedOut_54 : decode cX4_isCarriedOut 54 = .ok (.aload_n 0, 1) := by decide +kernel
theorem dX4_isCarriedOut_55 : decode cX4_isCarriedOut 55 = .ok (.getfield 22, 3) := by decide +kernel
theorem dX4_isCarriedOut_58 : decode cX4_isCarriedOut 58 = .ok (.aload_n 0, 1) := by decide +kernel
theorem dX4_isCarriedOut_59 : decode cX4_isCarriedOut 59 = .ok (.iload_n 1, 1) := by decide +kernel
theorem dX4_isCarriedOut_60 : decode cX4_isCarriedOut 60 = .ok (.iconst 1, 1) := by decide +kernel
theorem dX4_isCarriedOut_61 : decode cX4_isCarriedOut 61 = .ok (.iadd, 1) := by decide +kernel
theorem dX4_isCarriedOut_62 : decode cX4_isCarriedOut 62 = .ok (.invokevirtual 41, 3) := by decide +kernel
theorem dX4_isCarriedOut_65 : decode cX4_isCarriedOut 65 = .ok (.aload_n 0, 1) := by decide +kernel
theorem dX4_isCarriedOut_66 : decode cX4_isCarriedOut 66 = .ok (.iload_n 1, 1) := by decide +kernel
theorem dX4_isCarriedOut_67 : decode cX4_isCarriedOut 67 = .ok (.iconst 2, 1) := by decide +kernel
theorem dX4_isCarriedOut_68 : decode cX4_isCarriedOut 68 = .ok (.iadd, 1) := by decide +kernel
theorem dX4_isCarriedOut_69 : decode cX4_isCarriedOut 69 = .ok (.invokevirtual 41, 3) := by decide +kernel
theorem dX4_isCarriedOut_72 : decode cX4_isCarriedOut 72 = .ok (.invokevirtual 48, 3) := by decide +kernel
theorem dX4_isCarriedOut_75 : decode cX4_isCarriedOut 75 = .ok (.ireturn, 1) := by decide +kernel
theorem dX4_isCarriedOut_76 : decode cX4_isCarriedOut 76 = .ok (.aload_n 0, 1) := by decide +kernel
theorem dX4_isCarriedOut_77 : decode cX4_isCarriedOut 77 = .ok (.getfield 22, 3) := by decide +kernel
theorem dX4_isCarriedOut_80 : decode cX4_isCarriedOut 80 = .ok (.aload_n 0, 1) := by decide +kernel
theorem dX4_isCarriedOut_81 : decode cX4_isCarriedOut 81 = .ok (.iload_n 1, 1) := by decide +kernel
theorem dX4_isCarriedOut_82 : decode cX4_isCarriedOut 82 = .ok (.iconst 1, 1) := by decide +kernel
theorem dX4_isCarriedOut_83 : decode cX4_isCarriedOut 83 = .ok (.iadd, 1) := by decide +kernel
theorem dX4_isCarriedOut_84 : decode cX4_isCarriedOut 84 = .ok (.invokevirtual 41, 3) := by decide +kernel
theorem dX4_isCarriedOut_87 : decode cX4_isCarriedOut 87 = .ok (.invokevirtual 51, 3) := by decide +kernel
theorem dX4_isCarriedOut_90 : decode cX4_isCarriedOut 90 = .ok (.ireturn, 1) := by decide +kernel
theorem dX4_digitAt_0 : decode cX4_digitAt 0 = .ok (.iload_n 1, 1) := by decide +kernel
theorem dX4_digitAt_1 : decode cX4_digitAt 1 = .ok (.bipush 64, 2) := by decide +kernel
theorem dX4_digitAt_3 : decode cX4_digitAt 3 = .ok (.if_icmp .ge 15, 3) := by decide +kernel
theorem dX4_digitAt_6 : decode cX4_digitAt 6 = .ok (.aload_n 0, 1) := by decide +kernel
theorem dX4_digitAt_7 : decode cX4_digitAt 7 = .ok (.getfield 15, 3) := by decide +kernel
theorem dX4_digitAt_10 : decode cX4_digitAt 10 = .ok (.iload_n 1, 1) := by decide +kernel
theorem dX4_digitAt_11 : decode cX4_digitAt 11 = .ok (.iaload, 1) := by decide +kernel
theorem dX4_digitAt_12 : decode cX4_digitAt 12 = .ok (.bipush 48, 2) := by decide +kernel
theorem dX4_digitAt_14 : decode cX4_digitAt 14 = .ok (.isub, 1) := by decide +kernel
theorem dX4_digitAt_15 : decode cX4_digitAt 15 = .ok (.goto 4, 3) := by decide +kernel
theorem dX4_digitAt_18 : decode cX4_digitAt 18 = .ok (.iconst (-1), 1) := by decide +kernel
theorem dX4_digitAt_19 : decode cX4_digitAt 19 = .ok (.ireturn, 1) := by decide +kernel
set_option maxRecDepth 20000 in
theorem ggX5_init_X2_init : GoodIn wsX5_init wsX2_init := goodIn_r _ [12, 13, 2, 3, 14, 15, 16, 17, 18, 19, 20, 24, 25, 26, 27, 28, 29] (by decide +kernel) (by decide +kernel)
set_option maxRecDepth 20000 in
theorem gX5_init_X2_init : GoodIn wsX5_init (wsX2_init) := ggX5_init_X2_init
theorem dX5_init_0 : decode cX5_init 0 = .ok (.aload_n 0, 1) := by decide +kernel
theorem dX5_init_1 : decode cX5_init 1 = .ok (.invokespecial 3, 3) := by decide +kernel
theorem dX5_init_4 : decode cX5_init 4 = .ok (.aload_n 0, 1) := by decide +kernel
theorem dX5_init_5 : decode cX5_init 5 = .ok (.iconst 3, 1) := by decide +kernel
theorem dX5_init_6 : decode cX5_init 6 = .ok (.anewarray 9, 3) := by decide +kernel
theorem dX5_init_9 : decode cX5_init 9 = .ok (.putfield 11, 3) := by decide +kernel
theorem dX5_init_12 : decode cX5_init 12 = .ok (.iconst 0, 1) := by decide +kernel
theorem dX5_init_13 : decode cX5_init 13 = .ok (.istore_n 1, 1) := by decide +kernel
theorem dX5_init_14 : decode cX5_init 14 = .ok (.iload_n 1, 1) := by decide +kernel
theorem dX5_init_15 : decode cX5_init 15 = .ok (.iconst 3, 1) := by decide +kernel
theorem dX5_init_16 : decode cX5_init 16 = .ok (.if_icmp .ge 22, 3) := by decide +kernel
theorem dX5_init_19 : decode cX5_init 19 = .ok (.aload_n 0, 1) := by decide +kernel
theorem dX5_init_20 : decode cX5_init 20 = .ok (.getfield 11, 3) := by decide +kernel
theorem dX5_init_23 : decode cX5_init 23 = .ok (.iload_n 1, 1) := by decide +kernel
theorem dX5_init_24 : decode cX5_init 24 = .ok (.new 9, 3) := by decide +kernel
theorem dX5_init_27 : decode cX5_init 27 = .ok (.dup, 1) := by decide +kernel
theorem dX5_init_28 : decode cX5_init 28 = .ok (.invokespecial 17, 3) := by decide +kernel
theorem dX5_init_31 : decode cX5_init 31 = .ok (.aastore, 1) := by decide +kernel
theorem dX5_init_32 : decode cX5_init 32 = .ok (.iinc 1 1, 3) := by decide +kernel
theorem dX5_init_35 : decode cX5_init 35 = .ok (.goto (-21), 3) := by decide +kernel
theorem dX5_init_38 : decode cX5_init 38 = .ok (.aload_n 0, 1) := by decide +kernel
theorem dX5_init_39 : decode cX5_init 39 = .ok (.iconst 0, 1) := by decide +kernel
theorem dX5_init_40 : decode cX5_init 40 = .ok (.putfield 18, 3) := by decide +kernel
theorem dX5_init_43 : decode cX5_init 43 = .ok (.aload_n 0, 1) := by decide +kernel
theorem dX5_init_44 : decode cX5_init 44 = .ok (.iconst 0, 1) := by decide +kernel
theorem dX5_init_45 : decode cX5_init 45 = .ok (.putfield 22, 3) := by decide +kernel
theorem dX5_init_48 : decode cX5_init 48 = .ok (.return_, 1) := by decide +kernel
set_option maxRecDepth 20000 in
theorem ggX5_leastDances_X2_haveDanced : GoodIn wsX5_leastDances wsX2_haveDanced := goodIn_r _ [8, 9, 10, 11, 12, 101, 102, 103, 104, 105, 106] (by decide +kernel) (by decide +kernel)
set_option maxRecDepth 20000 in
theorem gX5_leastDances_X2_haveDanced : GoodIn wsX5_leastDances (wsV RX5 25 RX2 yX2_haveDanced wsX2_haveDanced) := goodIn_app (goodIn_of _ (by decide +kernel)) ggX5_leastDances_X2_haveDanced
set_option maxRecDepth 20000 in
theorem ggX5_leastDances_X2_copyFrom : GoodIn wsX5_leastDances wsX2_copyFrom := goodIn_r _ [16, 17, 18, 19, 20, 21, 9, 101, 102, 103, 104, 105, 106] (by decide +kernel) (by decide +kernel)
set_option maxRecDepth 20000 in
theorem gX5_leastDances_X2_copyFrom : GoodIn wsX5_leastDances (wsV RX5 29 RX2 yX2_copyFrom wsX2_copyFrom) := goodIn_app (goodIn_of _ (by decide +kernel)) ggX5_leastDances_X2_copyFrom
set_option maxRecDepth 20000 in
theorem ggX5_leastDances_X5_isReached : GoodIn wsX5_leastDances wsX5_isReached := goodIn_r _ [26, 3, 1, 2, 27, 28, 29, 7, 30, 31, 32, 33, 34, 18, 35, 5, 6, 8, 9, 10, 11, 12, 36, 37, 38, 39, 40, 41, 42, 43, 17, 44, 45, 46, 47, 21, 20, 19, 48, 49, 50, 51, 52, 53, 54, 55, 56, 57, 58, 59, 60, 61, 62, 63, 64, 65, 66, 67, 68, 69, 70, 71, 72, 73, 74, 75, 76, 77, 78, 79, 80, 81, 82, 83, 84, 25, 85, 86, 13, 14, 15, 16, 87, 88, 89, 90, 91, 92, 93, 94, 95, 96, 97, 22, 23, 24, 98, 99, 100, 101, 102, 103, 104, 105, 106] (by decide +kernel) (by decide +kernel)
set_option maxRecDepth 20000 in
theorem gX5_leastDances_X5_isReached : GoodIn wsX5_leastDances (wsV RX5 33 RX5 yX5_isReached wsX5_isReached) := goodIn_app (goodIn_of _ (by decide +kernel)) ggX5_leastDances_X5_isReached
theorem dX5_leastDances_0 : decode cX5_leastDances 0 = .ok (.aload_n 1, 1) := by decide +kernel
theorem dX5_leastDances_1 : decode cX5_leastDances 1 = .ok (.iload_n 2, 1) := by decide +kernel
theorem dX5_leastDances_2 : decode cX5_leastDances 2 = .ok (.iload_n 3, 1) := by decide +kernel
theorem dX5_leastDances_3 : decode cX5_leastDances 3 = .ok (.invokevirtual 25, 3) := by decide +kernel
theorem dX5_leastDances_6 : decode cX5_leastDances 6 = .ok (.ifCond .eq 5, 3) := by decide +kernel
theorem dX5_leastDances_9 : decode cX5_leastDances 9 = .ok (.iconst 0, 1) := by decide +kernel
theorem dX5_leastDances_10 : decode cX5_leastDances 10 = .ok (.ireturn, 1) := by decide +kernel
theorem dX5_leastDances_11 : decode cX5_leastDances 11 = .ok (.aload_n 0, 1) := by decide +kernel
theorem dX5_leastDances_12 : decode cX5_leastDances 12 = .ok (.iload_n 2, 1) := by decide +kernel
theorem dX5_leastDances_13 : decode cX5_leastDances 13 = .ok (.putfield 18, 3) := by decide +kernel
theorem dX5_leastDances_16 : decode cX5_leastDances 16 = .ok (.aload_n 0, 1) := by decide +kernel
theorem dX5_leastDances_17 : decode cX5_leastDances 17 = .ok (.iload_n 3, 1) := by decide +kernel
theorem dX5_leastDances_18 : decode cX5_leastDances 18 = .ok (.putfield 22, 3) := by decide +kernel
theorem dX5_leastDances_21 : decode cX5_leastDances 21 = .ok (.aload_n 0, 1) := by decide +kernel
theorem dX5_leastDances_22 : decode cX5_leastDances 22 = .ok (.getfield 11, 3) := by decide +kernel
theorem dX5_leastDances_25 : decode cX5_leastDances 25 = .ok (.iconst 0, 1) := by decide +kernel
theorem dX5_leastDances_26 : decode cX5_leastDances 26 = .ok (.aaload, 1) := by decide +kernel
theorem dX5_leastDances_27 : decode cX5_leastDances 27 = .ok (.aload_n 1, 1) := by decide +kernel
theorem dX5_leastDances_28 : decode cX5_leastDances 28 = .ok (.invokevirtual 29, 3) := by decide +kernel
theorem dX5_leastDances_31 : decode cX5_leastDances 31 = .ok (.iconst 0, 1) := by decide +kernel
theorem dX5_leastDances_32 : decode cX5_leastDances 32 = .ok (.istore 4, 2) := by decide +kernel
theorem dX5_leastDances_34 : decode cX5_leastDances 34 = .ok (.iload 4, 2) := by decide +kernel
theorem dX5_leastDances_36 : decode cX5_leastDances 36 = .ok (.iconst 3, 1) := by decide +kernel
theorem dX5_leastDances_37 : decode cX5_leastDances 37 = .ok (.if_icmp .ge 24, 3) := by decide +kernel
theorem dX5_leastDances_40 : decode cX5_leastDances 40 = .ok (.aload_n 0, 1) := by decide +kernel
theorem dX5_leastDances_41 : decode cX5_leastDances 41 = .ok (.iconst 0, 1) := by decide +kernel
theorem dX5_leastDances_42 : decode cX5_leastDances 42 = .ok (.iload 4, 2) := by decide +kernel
theorem dX5_leastDances_44 : decode cX5_leastDances 44 = .ok (.invokevirtual 33, 3) := by decide +kernel
theorem dX5_leastDances_47 : decode cX5_leastDances 47 = .ok (.ifCond .eq 8, 3) := by decide +kernel
theorem dX5_leastDances_50 : decode cX5_leastDances 50 = .ok (.iload 4, 2) := by decide +kernel
theorem dX5_leastDances_52 : decode cX5_leastDances 52 = .ok (.iconst 1, 1) := by decide +kernel
theorem dX5_leastDances_53 : decode cX5_leastDances 53 = .ok (.iadd, 1) := by decide +kernel
theorem dX5_leastDances_54 : decode cX5_leastDances 54 = .ok (.ireturn, 1) := by decide +kernel
theorem dX5_leastDances_55 : decode cX5_leastDances 55 = .ok (.iinc 4 1, 3) := by decide +kernel
theorem dX5_leastDances_58 : decode cX5_leastDances 58 = .ok (.goto (-24), 3) := by decide +kernel
theorem dX5_leastDances_61 : decode cX5_leastDances 61 = .ok (.bipush (-9), 2) := by decide +kernel
theorem dX5_leastDances_63 : decode cX5_leastDances 63 = .ok (.ireturn, 1) := by decide +kernel
set_option maxRecDepth 20000 in
theorem ggX5_isReached_X2_isAllowed : GoodIn wsX5_isReached wsX2_isAllowed := goodIn_r _ [8, 9, 10, 11, 7, 12, 13, 14, 15, 16, 17, 18, 19, 20, 21, 22, 23, 24, 25, 26, 27, 28, 29, 30, 31, 32, 33, 34, 35, 36, 37, 38, 39, 40, 41, 42, 43, 44, 45, 46, 47, 48, 49, 50, 51, 99, 100, 101, 102, 103, 104] (by decide +kernel) (by decide +kernel)
set_option maxRecDepth 20000 in
theorem gX5_isReached_X2_isAllowed : GoodIn wsX5_isReached (wsV RX5 36 RX2 yX2_isAllowed wsX2_isAllowed) := goodIn_app (goodIn_of _ (by decide +kernel)) ggX5_isReached_X2_isAllowed
set_option maxRecDepth 20000 in
theorem ggX5_isReached_X2_isOpenPair : GoodIn wsX5_isReached wsX2_isOpenPair := goodIn_r _ [55, 56, 57, 58, 7, 59, 60, 20, 61, 62, 63, 64, 65, 66, 67, 68, 69, 70, 71, 30, 14, 15, 16, 17, 18, 19, 21, 99, 100, 101, 102, 103, 104] (by decide +kernel) (by decide +kernel)
set_option maxRecDepth 20000 in
theorem gX5_isReached_X2_isOpenPair : GoodIn wsX5_isReached (wsV RX5 39 RX2 yX2_isOpenPair wsX2_isOpenPair) := goodIn_app (goodIn_of _ (by decide +kernel)) ggX5_isReached_X2_isOpenPair
set_option maxRecDepth 20000 in
theorem ggX5_isReached_X5_isReachedBy : GoodIn wsX5_isReached wsX5_isReachedBy := goodIn_r _ [76, 1, 60, 20, 61, 62, 63, 77, 10, 11, 7, 12, 13, 14, 15, 16, 17, 18, 19, 21, 22, 23, 24, 25, 26, 27, 28, 29, 30, 31, 32, 33, 34, 35, 36, 37, 38, 39, 40, 41, 42, 43, 44, 45, 46, 47, 48, 49, 50, 51, 78, 79, 80, 81, 82, 83, 84, 85, 68, 69, 70, 71, 86, 87, 88, 89, 90, 91, 92, 64, 65, 66, 67, 93, 94, 95, 75, 0, 2, 3, 4, 5, 6, 8, 9, 52, 53, 54, 55, 56, 57, 58, 59, 72, 73, 74, 96, 97, 98, 99, 100, 101, 102, 103, 104] (by decide +kernel) (by decide +kernel)
set_option maxRecDepth 20000 in
theorem gX5_isReached_X5_isReachedBy : GoodIn wsX5_isReached (wsV RX5 43 RX5 yX5_isReachedBy wsX5_isReachedBy) := goodIn_app (goodIn_of _ (by decide +kernel)) ggX5_isReached_X5_isReachedBy
theorem dX5_isReached_0 : decode cX5_isReached 0 = .ok (.aload_n 0, 1) := by decide +kernel
theorem dX5_isReached_1 : decode cX5_isReached 1 = .ok (.getfield 11, 3) := by decide +kernel
theorem dX5_isReached_4 : decode cX5_isReached 4 = .ok (.iload_n 1, 1) := by decide +kernel
theorem dX5_isReached_5 : decode cX5_isReached 5 = .ok (.aaload, 1) := by decide +kernel
theorem dX5_isReached_6 : decode cX5_isReached 6 = .ok (.astore_n 3, 1) := by decide +kernel
theorem dX5_isReached_7 : decode cX5_isReached 7 = .ok (.iload_n 2, 1) := by decide +kernel
theorem dX5_isReached_8 : decode cX5_isReached 8 = .ok (.ifCond .le 10, 3) := by decide +kernel
theorem dX5_isReached_11 : decode cX5_isReached 11 = .ok (.iload_n 1, 1) := by decide +kernel
theorem dX5_isReached_12 : decode cX5_isReached 12 = .ok (.iconst 1, 1) := by decide +kernel
theorem dX5_isReached_13 : decode cX5_isReached 13 = .ok (.iadd, 1) := by decide +kernel
theorem dX5_isReached_14 : decode cX5_isReached 14 = .ok (.iconst 3, 1) := by decide +kernel
theorem dX5_isReached_15 : decode cX5_isReached 15 = .ok (.if_icmp .lt 16, 3) := by decide +kernel
theorem dX5_isReached_18 : decode cX5_isReached 18 = .ok (.aload_n 3, 1) := by decide +kernel
theorem dX5_isReached_19 : decode cX5_isReached 19 = .ok (.aload_n 0, 1) := by decide +kernel
theorem dX5_isReached_20 : decode cX5_isReached 20 = .ok (.getfield 18, 3) := by decide +kernel
theorem dX5_isReached_23 : decode cX5_isReached 23 = .ok (.aload_n 0, 1) := by decide +kernel
theorem dX5_isReached_24 : decode cX5_isReached 24 = .ok (.getfield 22, 3) := by decide +kernel
theorem dX5_isReached_27 : decode cX5_isReached 27 = .ok (.invokevirtual 36, 3) := by decide +kernel
theorem dX5_isReached_30 : decode cX5_isReached 30 = .ok (.ireturn, 1) := by decide +kernel
theorem dX5_isReached_31 : decode cX5_isReached 31 = .ok (.iconst 1, 1) := by decide +kernel
theorem dX5_isReached_32 : decode cX5_isReached 32 = .ok (.istore 4, 2) := by decide +kernel
theorem dX5_isReached_34 : decode cX5_isReached 34 = .ok (.iload 4, 2) := by decide +kernel
theorem dX5_isReached_36 : decode cX5_isReached 36 = .ok (.bipush 67, 2) := by decide +kernel
theorem dX5_isReached_38 : decode cX5_isReached 38 = .ok (.if_icmp .gt 31, 3) := by decide +kernel
theorem dX5_isReached_41 : decode cX5_isReached 41 = .ok (.aload_n 3, 1) := by decide +kernel
theorem dX5_isReached_42 : decode cX5_isReached 42 = .ok (.iload 4, 2) := by decide +kernel
theorem dX5_isReached_44 : decode cX5_isReached 44 = .ok (.invokevirtual 39, 3) := by decide +kernel
theorem dX5_isReached_47 : decode cX5_isReached 47 = .ok (.ifCond .eq 16, 3) := by decide +kernel
theorem dX5_isReached_50 : decode cX5_isReached 50 = .ok (.aload_n 0, 1) := by decide +kernel
theorem dX5_isReached_51 : decode cX5_isReached 51 = .ok (.iload 4, 2) := by decide +kernel
theorem dX5_isReached_53 : decode cX5_isReached 53 = .ok (.iload_n 1, 1) := by decide +kernel
theorem dX5_isReached_54 : decode cX5_isReached 54 = .ok (.iload_n 2, 1) := by decide +kernel
theorem dX5_isReached_55 : decode cX5_isReached 55 = .ok (.invokevirtual 43, 3) := by decide +kernel
theorem dX5_isReached_58 : decode cX5_isReached 58 = .ok (.ifCond .eq 5, 3) := by decide +kernel
theorem dX5_isReached_61 : decode cX5_isReached 61 = .ok (.iconst 1, 1) := by decide +kernel
theorem dX5_isReached_62 : decode cX5_isReached 62 = .ok (.ireturn, 1) := by decide +kernel
theorem dX5_isReached_63 : decode cX5_isReached 63 = .ok (.iinc 4 1, 3) := by decide +kernel
theorem dX5_isReached_66 : decode cX5_isReached 66 = .ok (.goto (-32), 3) := by decide +kernel
theorem dX5_isReached_69 : decode cX5_isReached 69 = .ok (.iconst 0, 1) := by decide +kernel
theorem dX5_isReached_70 : decode cX5_isReached 70 = .ok (.ireturn, 1) := by decide +kernel
set_option maxRecDepth 20000 in
theorem ggX5_isReachedBy_X6_lesserOf : GoodIn wsX5_isReachedBy wsX6_lesserOf := goodIn_r _ [4] (by decide +kernel) (by decide +kernel)
set_option maxRecDepth 20000 in
theorem gX5_isReachedBy_X6_lesserOf_n47 : GoodIn wsX5_isReachedBy (wsX6_lesserOf) := ggX5_isReachedBy_X6_lesserOf
set_option maxRecDepth 20000 in
theorem ggX5_isReachedBy_X6_greaterOf : GoodIn wsX5_isReachedBy wsX6_greaterOf := goodIn_r _ [6] (by decide +kernel) (by decide +kernel)
set_option maxRecDepth 20000 in
theorem gX5_isReachedBy_X6_greaterOf_n51 : GoodIn wsX5_isReachedBy (wsX6_greaterOf) := ggX5_isReachedBy_X6_greaterOf
set_option maxRecDepth 20000 in
theorem ggX5_isReachedBy_X2_waysToDance : GoodIn wsX5_isReachedBy wsX2_waysToDance := goodIn_r _ [11, 12, 13, 14, 15, 10, 16, 17, 18, 3, 19, 20, 21, 22, 23, 24, 25, 26, 27, 28, 29, 30, 31, 32, 33, 34, 35, 36, 37, 38, 39, 40, 41, 42, 43, 44, 45, 46, 47, 48, 49, 99, 100, 101, 102, 103, 104] (by decide +kernel) (by decide +kernel)
set_option maxRecDepth 20000 in
theorem gX5_isReachedBy_X2_waysToDance : GoodIn wsX5_isReachedBy (wsV RX5 54 RX2 yX2_waysToDance wsX2_waysToDance) := goodIn_app (goodIn_of _ (by decide +kernel)) ggX5_isReachedBy_X2_waysToDance
set_option maxRecDepth 20000 in
theorem ggX5_isReachedBy_X6_hasBit : GoodIn wsX5_isReachedBy wsX6_hasBit := goodIn_r _ [19] (by decide +kernel) (by decide +kernel)
set_option maxRecDepth 20000 in
theorem gX5_isReachedBy_X6_hasBit_n58 : GoodIn wsX5_isReachedBy (wsX6_hasBit) := ggX5_isReachedBy_X6_hasBit
set_option maxRecDepth 20000 in
theorem ggX5_isReachedBy_X2_copyFrom : GoodIn wsX5_isReachedBy wsX2_copyFrom := goodIn_r _ [53, 28, 12, 35, 34, 33, 17, 99, 100, 101, 102, 103, 104] (by decide +kernel) (by decide +kernel)
set_option maxRecDepth 20000 in
theorem gX5_isReachedBy_X2_copyFrom : GoodIn wsX5_isReachedBy (wsV RX5 29 RX2 yX2_copyFrom wsX2_copyFrom) := goodIn_app (goodIn_of _ (by decide +kernel)) ggX5_isReachedBy_X2_copyFrom
set_option maxRecDepth 20000 in
theorem ggX5_isReachedBy_X2_step : GoodIn wsX5_isReachedBy wsX2_step := goodIn_r _ [57, 12, 33, 58, 59, 60, 10, 61, 28, 20, 21, 22, 23, 17, 24, 25, 26, 27, 18, 3, 19, 29, 30, 31, 32, 34, 35, 36, 37, 38, 39, 40, 41, 42, 43, 44, 45, 62, 63, 64, 65, 66, 67, 68, 69, 70, 71, 72, 99, 100, 101, 102, 103, 104] (by decide +kernel) (by decide +kernel)
set_option maxRecDepth 20000 in
theorem gX5_isReachedBy_X2_step : GoodIn wsX5_isReachedBy (wsV RX5 61 RX2 yX2_step wsX2_step) := goodIn_app (goodIn_of _ (by decide +kernel)) ggX5_isReachedBy_X2_step
set_option maxRecDepth 20000 in
theorem ggX5_isReachedBy_X5_isReached : GoodIn wsX5_isReachedBy wsX5_isReached := goodIn_r _ [77, 1, 78, 79, 80, 81, 82, 10, 83, 84, 8, 9, 11, 12, 13, 14, 15, 16, 17, 18, 3, 19, 20, 21, 22, 23, 24, 25, 26, 27, 28, 29, 30, 31, 32, 33, 34, 35, 36, 37, 38, 39, 40, 41, 42, 43, 44, 45, 46, 47, 48, 49, 85, 86, 87, 88, 89, 90, 91, 92, 2, 4, 5, 6, 69, 70, 71, 72, 58, 59, 60, 61, 93, 94, 95, 76, 0, 7, 50, 51, 52, 53, 54, 55, 56, 57, 62, 63, 64, 65, 66, 67, 68, 73, 74, 75, 96, 97, 98, 99, 100, 101, 102, 103, 104] (by decide +kernel) (by decide +kernel)
set_option maxRecDepth 20000 in
theorem gX5_isReachedBy_X5_isReached : GoodIn wsX5_isReachedBy (wsV RX5 33 RX5 yX5_isReached wsX5_isReached) := goodIn_app (goodIn_of _ (by decide +kernel)) ggX5_isReachedBy_X5_isReached
theorem dX5_isReachedBy_0 : decode cX5_isReachedBy 0 = .ok (.aload_n 0, 1) := by decide +kernel
theorem dX5_isReachedBy_1 : decode cX5_isReachedBy 1 = .ok (.getfield 11, 3) := by decide +kernel
theorem dX5_isReachedBy_4 : decode cX5_isReachedBy 4 = .ok (.iload_n 2, 1) := by decide +kernel
theorem dX5_isReachedBy_5 : decode cX5_isReachedBy 5 = .ok (.aaload, 1) := by decide +kernel
theorem dX5_isReachedBy_6 : decode cX5_isReachedBy 6 = .ok (.astore 4, 2) := by decide +kernel
theorem dX5_isReachedBy_8 : decode cX5_isReachedBy 8 = .ok (.aload_n 0, 1) := by decide +kernel
theorem dX5_isReachedBy_9 : decode cX5_isReachedBy 9 = .ok (.getfield 11, 3) := by decide +kernel
theorem dX5_isReachedBy_12 : decode cX5_isReachedBy 12 = .ok (.iload_n 2, 1) := by decide +kernel
theorem dX5_isReachedBy_13 : decode cX5_isReachedBy 13 = .ok (.iconst 1, 1) := by decide +kernel
theorem dX5_isReachedBy_14 : decode cX5_isReachedBy 14 = .ok (.iadd, 1) := by decide +kernel
theorem dX5_isReachedBy_15 : decode cX5_isReachedBy 15 = .ok (.aaload, 1) := by decide +kernel
theorem dX5_isReachedBy_16 : decode cX5_isReachedBy 16 = .ok (.astore 5, 2) := by decide +kernel
theorem dX5_isReachedBy_18 : decode cX5_isReachedBy 18 = .ok (.iload_n 1, 1) := by decide +kernel
theorem dX5_isReachedBy_19 : decode cX5_isReachedBy 19 = .ok (.invokestatic 47, 3) := by decide +kernel
theorem dX5_isReachedBy_22 : decode cX5_isReachedBy 22 = .ok (.istore 6, 2) := by decide +kernel
theorem dX5_isReachedBy_24 : decode cX5_isReachedBy 24 = .ok (.iload_n 1, 1) := by decide +kernel
theorem dX5_isReachedBy_25 : decode cX5_isReachedBy 25 = .ok (.invokestatic 51, 3) := by decide +kernel
theorem dX5_isReachedBy_28 : decode cX5_isReachedBy 28 = .ok (.istore 7, 2) := by decide +kernel
theorem dX5_isReachedBy_30 : decode cX5_isReachedBy 30 = .ok (.aload 4, 2) := by decide +kernel
theorem dX5_isReachedBy_32 : decode cX5_isReachedBy 32 = .ok (.iload 6, 2) := by decide +kernel
theorem dX5_isReachedBy_34 : decode cX5_isReachedBy 34 = .ok (.iload 7, 2) := by decide +kernel
theorem dX5_isReachedBy_36 : decode cX5_isReachedBy 36 = .ok (.invokevirtual 54, 3) := by decide +kernel
theorem dX5_isReachedBy_39 : decode cX5_isReachedBy 39 = .ok (.istore 8, 2) := by decide +kernel
theorem dX5_isReachedBy_41 : decode cX5_isReachedBy 41 = .ok (.iconst 0, 1) := by decide +kernel
theorem dX5_isReachedBy_42 : decode cX5_isReachedBy 42 = .ok (.istore 9, 2) := by decide +kernel
theorem dX5_isReachedBy_44 : decode cX5_isReachedBy 44 = .ok (.iload 9, 2) := by decide +kernel
theorem dX5_isReachedBy_46 : decode cX5_isReachedBy 46 = .ok (.bipush 9, 2) := by decide +kernel
theorem dX5_isReachedBy_48 : decode cX5_isReachedBy 48 = .ok (.if_icmp .gt 52, 3) := by decide +kernel
theorem dX5_isReachedBy_51 : decode cX5_isReachedBy 51 = .ok (.iload 8, 2) := by decide +kernel
theorem dX5_isReachedBy_53 : decode cX5_isReachedBy 53 = .ok (.iload 9, 2) := by decide +kernel
theorem dX5_isReachedBy_55 : decode cX5_isReachedBy 55 = .ok (.invokestatic 58, 3) := by decide +kernel
theorem dX5_isReachedBy_58 : decode cX5_isReachedBy 58 = .ok (.ifCond .eq 36, 3) := by decide +kernel
theorem dX5_isReachedBy_61 : decode cX5_isReachedBy 61 = .ok (.aload 5, 2) := by decide +kernel
theorem dX5_isReachedBy_63 : decode cX5_isReachedBy 63 = .ok (.aload 4, 2) := by decide +kernel
theorem dX5_isReachedBy_65 : decode cX5_isReachedBy 65 = .ok (.invokevirtual 29, 3) := by decide +kernel
theorem dX5_isReachedBy_68 : decode cX5_isReachedBy 68 = .ok (.aload 5, 2) := by decide +kernel
theorem dX5_isReachedBy_70 : decode cX5_isReachedBy 70 = .ok (.iload 6, 2) := by decide +kernel
theorem dX5_isReachedBy_72 : decode cX5_isReachedBy 72 = .ok (.iload 7, 2) := by decide +kernel
theorem dX5_isReachedBy_74 : decode cX5_isReachedBy 74 = .ok (.iload 9, 2) := by decide +kernel
theorem dX5_isReachedBy_76 : decode cX5_isReachedBy 76 = .ok (.invokevirtual 61, 3) := by decide +kernel
theorem dX5_isReachedBy_79 : decode cX5_isReachedBy 79 = .ok (.aload_n 0, 1) := by decide +kernel
theorem dX5_isReachedBy_80 : decode cX5_isReachedBy 80 = .ok (.iload_n 2, 1) := by decide +kernel
theorem dX5_isReachedBy_81 : decode cX5_isReachedBy 81 = .ok (.iconst 1, 1) := by decide +kernel
theorem dX5_isReachedBy_82 : decode cX5_isReachedBy 82 = .ok (.iadd, 1) := by decide +kernel
theorem dX5_isReachedBy_83 : decode cX5_isReachedBy 83 = .ok (.iload_n 3, 1) := by decide +kernel
theorem dX5_isReachedBy_84 : decode cX5_isReachedBy 84 = .ok (.iconst 1, 1) := by decide +kernel
theorem dX5_isReachedBy_85 : decode cX5_isReachedBy 85 = .ok (.isub, 1) := by decide +kernel
theorem dX5_isReachedBy_86 : decode cX5_isReachedBy 86 = .ok (.invokevirtual 33, 3) := by decide +kernel
theorem dX5_isReachedBy_89 : decode cX5_isReachedBy 89 = .ok (.ifCond .eq 5, 3) := by decide +kernel
theorem dX5_isReachedBy_92 : decode cX5_isReachedBy 92 = .ok (.iconst 1, 1) := by decide +kernel
theorem dX5_isReachedBy_93 : decode cX5_isReachedBy 93 = .ok (.ireturn, 1) := by decide +kernel
theorem dX5_isReachedBy_94 : decode cX5_isReachedBy 94 = .ok (.iinc 9 1, 3) := by decide +kernel
theorem dX5_isReachedBy_97 : decode cX5_isReachedBy 97 = .ok (.goto (-53), 3) := by decide +kernel
theorem dX5_isReachedBy_100 : decode cX5_isReachedBy 100 = .ok (.iconst 0, 1) := by decide +kernel
theorem dX5_isReachedBy_101 : decode cX5_isReachedBy 101 = .ok (.ireturn, 1) := by decide +kernel
set_option maxRecDepth 20000 in
theorem ggX6_init_X2_init : GoodIn wsX6_init wsX2_init := goodIn_r _ [30, 31, 2, 3, 32, 33, 25, 34, 35, 36, 37, 84, 85, 86, 87, 88, 89] (by decide +kernel) (by decide +kernel)
set_option maxRecDepth 20000 in
theorem gX6_init_X2_init : GoodIn wsX6_init (wsX2_init) := ggX6_init_X2_init
set_option maxRecDepth 20000 in
theorem ggX6_init_X4_init : GoodIn wsX6_init wsX4_init := goodIn_r _ [40, 41, 2, 3, 42, 25, 43, 44, 5, 6, 45, 46, 29, 30, 31, 32, 33, 34, 35, 36, 37, 98, 99, 100, 84, 85, 86, 87, 88, 89] (by decide +kernel) (by decide +kernel)
set_option maxRecDepth 20000 in
theorem gX6_init_X4_init : GoodIn wsX6_init (wsX4_init) := ggX6_init_X4_init
set_option maxRecDepth 20000 in
theorem ggX6_init_X3_init : GoodIn wsX6_init wsX3_init := goodIn_r _ [49, 50, 2, 3, 51, 52, 53, 54, 55, 56, 57, 58, 59, 60, 61, 62, 25, 63, 64, 65, 101, 108, 109, 110, 111, 112, 113, 114] (by decide +kernel) (by decide +kernel)
set_option maxRecDepth 20000 in
theorem gX6_init_X3_init : GoodIn wsX6_init (wsX3_init) := ggX6_init_X3_init
set_option maxRecDepth 20000 in
theorem ggX6_init_X5_init : GoodIn wsX6_init wsX5_init := goodIn_r _ [68, 69, 2, 3, 70, 71, 5, 6, 72, 73, 74, 29, 30, 31, 32, 33, 25, 34, 35, 36, 37, 102, 103, 104, 84, 85, 86, 87, 88, 89] (by decide +kernel) (by decide +kernel)
set_option maxRecDepth 20000 in
theorem gX6_init_X5_init : GoodIn wsX6_init (wsX5_init) := ggX6_init_X5_init
set_option maxRecDepth 20000 in
theorem ggX6_init_X1_init : GoodIn wsX6_init wsX1_init := goodIn_r _ [77, 78, 2, 3, 79, 25, 80, 81, 82, 5, 6, 83, 29, 30, 31, 32, 33, 34, 35, 36, 37, 105, 106, 107, 84, 85, 86, 87, 88, 89] (by decide +kernel) (by decide +kernel)
set_option maxRecDepth 20000 in
theorem gX6_init_X1_init : GoodIn wsX6_init (wsX1_init) := ggX6_init_X1_init
theorem dX6_init_0 : decode cX6_init 0 = .ok (.aload_n 0, 1) := by decide +kernel
theorem dX6_init_1 : decode cX6_init 1 = .ok (.invokespecial 1, 3) := by decide +kernel
theorem dX6_init_4 : decode cX6_init 4 = .ok (.aload_n 0, 1) := by decide +kernel
theorem dX6_init_5 : decode cX6_init 5 = .ok (.new 7, 3) := by decide +kernel
theorem dX6_init_8 : decode cX6_init 8 = .ok (.dup, 1) := by decide +kernel
theorem dX6_init_9 : decode cX6_init 9 = .ok (.invokespecial 9, 3) := by decide +kernel
theorem dX6_init_12 : decode cX6_init 12 = .ok (.putfield 10, 3) := by decide +kernel
theorem dX6_init_15 : decode cX6_init 15 = .ok (.aload_n 0, 1) := by decide +kernel
theorem dX6_init_16 : decode cX6_init 16 = .ok (.new 7, 3) := by decide +kernel
theorem dX6_init_19 : decode cX6_init 19 = .ok (.dup, 1) := by decide +kernel
theorem dX6_init_20 : decode cX6_init 20 = .ok (.invokespecial 9, 3) := by decide +kernel
theorem dX6_init_23 : decode cX6_init 23 = .ok (.putfield 16, 3) := by decide +kernel
theorem dX6_init_26 : decode cX6_init 26 = .ok (.aload_n 0, 1) := by decide +kernel
theorem dX6_init_27 : decode cX6_init 27 = .ok (.new 19, 3) := by decide +kernel
theorem dX6_init_30 : decode cX6_init 30 = .ok (.dup, 1) := by decide +kernel
theorem dX6_init_31 : decode cX6_init 31 = .ok (.invokespecial 21, 3) := by decide +kernel
theorem dX6_init_34 : decode cX6_init 34 = .ok (.putfield 22, 3) := by decide +kernel
theorem dX6_init_37 : decode cX6_init 37 = .ok (.aload_n 0, 1) := by decide +kernel
theorem dX6_init_38 : decode cX6_init 38 = .ok (.new 26, 3) := by decide +kernel
theorem dX6_init_41 : decode cX6_init 41 = .ok (.dup, 1) := by decide +kernel
theorem dX6_init_42 : decode cX6_init 42 = .ok (.invokespecial 28, 3) := by decide +kernel
theorem dX6_init_45 : decode cX6_init 45 = .ok (.putfield 29, 3) := by decide +kernel
theorem dX6_init_48 : decode cX6_init 48 = .ok (.aload_n 0, 1) := by decide +kernel
theorem dX6_init_49 : decode cX6_init 49 = .ok (.new 33, 3) := by decide +kernel
theorem dX6_init_52 : decode cX6_init 52 = .ok (.dup, 1) := by decide +kernel
theorem dX6_init_53 : decode cX6_init 53 = .ok (.invokespecial 35, 3) := by decide +kernel
theorem dX6_init_56 : decode cX6_init 56 = .ok (.putfield 36, 3) := by decide +kernel
theorem dX6_init_59 : decode cX6_init 59 = .ok (.aload_n 0, 1) := by decide +kernel
theorem dX6_init_60 : decode cX6_init 60 = .ok (.new 40, 3) := by decide +kernel
theorem dX6_init_63 : decode cX6_init 63 = .ok (.dup, 1) := by decide +kernel
theorem dX6_init_64 : decode cX6_init 64 = .ok (.invokespecial 42, 3) := by decide +kernel
theorem dX6_init_67 : decode cX6_init 67 = .ok (.putfield 43, 3) := by decide +kernel
theorem dX6_init_70 : decode cX6_init 70 = .ok (.aload_n 0, 1) := by decide +kernel
theorem dX6_init_71 : decode cX6_init 71 = .ok (.bipush 7, 2) := by decide +kernel
theorem dX6_init_73 : decode cX6_init 73 = .ok (.newarray .int, 2) := by decide +kernel
theorem dX6_init_75 : decode cX6_init 75 = .ok (.putfield 47, 3) := by decide +kernel
theorem dX6_init_78 : decode cX6_init 78 = .ok (.aload_n 0, 1) := by decide +kernel
theorem dX6_init_79 : decode cX6_init 79 = .ok (.iconst 0, 1) := by decide +kernel
theorem dX6_init_80 : decode cX6_init 80 = .ok (.putfield 51, 3) := by decide +kernel
theorem dX6_init_83 : decode cX6_init 83 = .ok (.return_, 1) := by decide +kernel
set_option maxRecDepth 20000 in
theorem ggX6_feed_X6_refuse : GoodIn wsX6_feed wsX6_refuse := goodIn_r _ [7, 8, 16, 17, 18, 19, 20, 21, 22, 23] (by decide +kernel) (by decide +kernel)
set_option maxRecDepth 20000 in
theorem gX6_feed_X6_refuse : GoodIn wsX6_feed (wsV RX6 55 RX6 yX6_refuse wsX6_refuse) := goodIn_app (goodIn_of _ (by decide +kernel)) ggX6_feed_X6_refuse
set_option maxRecDepth 20000 in
theorem ggX6_feed_X4_append : GoodIn wsX6_feed wsX4_append := goodIn_r _ [13, 14, 15, 24, 25, 26] (by decide +kernel) (by decide +kernel)
set_option maxRecDepth 20000 in
theorem gX6_feed_X4_append : GoodIn wsX6_feed (wsV RX6 63 RX4 yX4_append wsX4_append) := goodIn_app (goodIn_of _ (by decide +kernel)) ggX6_feed_X4_append
theorem dX6_feed_0 : decode cX6_feed 0 = .ok (.iload_n 1, 1) := by decide +kernel
theorem dX6_feed_1 : decode cX6_feed 1 = .ok (.ifCond .ge 10, 3) := by decide +kernel
theorem dX6_feed_4 : decode cX6_feed 4 = .ok (.aload_n 0, 1) := by decide +kernel
theorem dX6_feed_5 : decode cX6_feed 5 = .ok (.bipush (-4), 2) := by decide +kernel
theorem dX6_feed_7 : decode cX6_feed 7 = .ok (.invokevirtual 55, 3) := by decide +kernel
theorem dX6_feed_10 : decode cX6_feed 10 = .ok (.ireturn, 1) := by decide +kernel
theorem dX6_feed_11 : decode cX6_feed 11 = .ok (.iload_n 1, 1) := by decide +kernel
theorem dX6_feed_12 : decode cX6_feed 12 = .ok (.sipush 255, 3) := by decide +kernel
theorem dX6_feed_15 : decode cX6_feed 15 = .ok (.if_icmp .gt 15, 3) := by decide +kernel
theorem dX6_feed_18 : decode cX6_feed 18 = .ok (.aload_n 0, 1) := by decide +kernel
theorem dX6_feed_19 : decode cX6_feed 19 = .ok (.getfield 22, 3) := by decide +kernel
theorem dX6_feed_22 : decode cX6_feed 22 = .ok (.getfield 59, 3) := by decide +kernel
theorem dX6_feed_25 : decode cX6_feed 25 = .ok (.bipush 64, 2) := by decide +kernel
theorem dX6_feed_27 : decode cX6_feed 27 = .ok (.if_icmp .lt 10, 3) := by decide +kernel
theorem dX6_feed_30 : decode cX6_feed 30 = .ok (.aload_n 0, 1) := by decide +kernel
theorem dX6_feed_31 : decode cX6_feed 31 = .ok (.bipush (-6), 2) := by decide +kernel
theorem dX6_feed_33 : decode cX6_feed 33 = .ok (.invokevirtual 55, 3) := by decide +kernel
theorem dX6_feed_36 : decode cX6_feed 36 = .ok (.ireturn, 1) := by decide +kernel
theorem dX6_feed_37 : decode cX6_feed 37 = .ok (.aload_n 0, 1) := by decide +kernel
theorem dX6_feed_38 : decode cX6_feed 38 = .ok (.getfield 22, 3) := by decide +kernel
theorem dX6_feed_41 : decode cX6_feed 41 = .ok (.iload_n 1, 1) := by decide +kernel
theorem dX6_feed_42 : decode cX6_feed 42 = .ok (.invokevirtual 63, 3) := by decide +kernel
theorem dX6_feed_45 : decode cX6_feed 45 = .ok (.ireturn, 1) := by decide +kernel
set_option maxRecDepth 20000 in
theorem ggX6_ball_X4_tellAll : GoodIn wsX6_ball wsX4_tellAll := goodIn_r _ [7, 8, 9, 10, 11, 12, 6, 13, 14, 15, 16, 17, 18, 19, 20, 21, 22, 23, 24, 25, 26, 27, 28, 29, 30, 31, 32, 33, 34, 35, 36, 37, 38, 39, 40, 41, 42, 43, 44, 45, 46, 47, 48, 49, 50, 51, 52, 53, 54, 55, 56, 57, 58, 59, 60, 69, 70, 71, 72, 73, 74, 75, 76, 77] (by decide +kernel) (by decide +kernel)
set_option maxRecDepth 20000 in
theorem gX6_ball_X4_tellAll : GoodIn wsX6_ball (wsV RX6 66 RX4 yX4_tellAll wsX4_tellAll) := goodIn_app (goodIn_of _ (by decide +kernel)) ggX6_ball_X4_tellAll
theorem dX6_ball_0 : decode cX6_ball 0 = .ok (.aload_n 0, 1) := by decide +kernel
theorem dX6_ball_1 : decode cX6_ball 1 = .ok (.getfield 22, 3) := by decide +kernel
theorem dX6_ball_4 : decode cX6_ball 4 = .ok (.aload_n 0, 1) := by decide +kernel
theorem dX6_ball_5 : decode cX6_ball 5 = .ok (.getfield 10, 3) := by decide +kernel
theorem dX6_ball_8 : decode cX6_ball 8 = .ok (.invokevirtual 66, 3) := by decide +kernel
theorem dX6_ball_11 : decode cX6_ball 11 = .ok (.ireturn, 1) := by decide +kernel
set_option maxRecDepth 20000 in
theorem ggX6_dancer_X2_isThere : GoodIn wsX6_dancer wsX2_isThere := goodIn_r _ [10, 11, 33, 34, 35, 36, 37, 38] (by decide +kernel) (by decide +kernel)
set_option maxRecDepth 20000 in
theorem gX6_dancer_X2_isThere : GoodIn wsX6_dancer (wsV RX6 70 RX2 yX2_isThere wsX2_isThere) := goodIn_app (goodIn_of _ (by decide +kernel)) ggX6_dancer_X2_isThere
set_option maxRecDepth 20000 in
theorem ggX6_dancer_X6_refuse : GoodIn wsX6_dancer wsX6_refuse := goodIn_r _ [16, 17, 25, 26, 27, 28, 29, 30, 31, 32] (by decide +kernel) (by decide +kernel)
set_option maxRecDepth 20000 in
theorem gX6_dancer_X6_refuse : GoodIn wsX6_dancer (wsV RX6 55 RX6 yX6_refuse wsX6_refuse) := goodIn_app (goodIn_of _ (by decide +kernel)) ggX6_dancer_X6_refuse
set_option maxRecDepth 20000 in
theorem ggX6_dancer_J6_bitCount_0f7a4 : GoodIn wsX6_dancer wsJ6_bitCount_0f7a4 := goodIn_r _ [21, 22, 23, 24] (by decide +kernel) (by decide +kernel)
set_option maxRecDepth 20000 in
theorem gX6_dancer_J6_bitCount_0f7a4 : GoodIn wsX6_dancer (va_wsS RX6 86 yJ6_bitCount_0f7a4 wsJ6_bitCount_0f7a4) := goodIn_app (goodIn_of _ (by decide +kernel)) ggX6_dancer_J6_bitCount_0f7a4
theorem dX6_dancer_0 : decode cX6_dancer 0 = .ok (.aload_n 0, 1) := by decide +kernel
theorem dX6_dancer_1 : decode cX6_dancer 1 = .ok (.getfield 10, 3) := by decide +kernel
theorem dX6_dancer_4 : decode cX6_dancer 4 = .ok (.iload_n 1, 1) := by decide +kernel
theorem dX6_dancer_5 : decode cX6_dancer 5 = .ok (.invokevirtual 70, 3) := by decide +kernel
theorem dX6_dancer_8 : decode cX6_dancer 8 = .ok (.ifCond .ne 9, 3) := by decide +kernel
theorem dX6_dancer_11 : decode cX6_dancer 11 = .ok (.aload_n 0, 1) := by decide +kernel
theorem dX6_dancer_12 : decode cX6_dancer 12 = .ok (.iconst (-1), 1) := by decide +kernel
theorem dX6_dancer_13 : decode cX6_dancer 13 = .ok (.invokevirtual 55, 3) := by decide +kernel
theorem dX6_dancer_16 : decode cX6_dancer 16 = .ok (.ireturn, 1) := by decide +kernel
theorem dX6_dancer_17 : decode cX6_dancer 17 = .ok (.iload_n 2, 1) := by decide +kernel
theorem dX6_dancer_18 : decode cX6_dancer 18 = .ok (.tableswitch 73 0 3 #[30, 40, 50, 60], 30) := by decide +kernel
theorem dX6_dancer_48 : decode cX6_dancer 48 = .ok (.aload_n 0, 1) := by decide +kernel
theorem dX6_dancer_49 : decode cX6_dancer 49 = .ok (.getfield 10, 3) := by decide +kernel
theorem dX6_dancer_52 : decode cX6_dancer 52 = .ok (.getfield 74, 3) := by decide +kernel
theorem dX6_dancer_55 : decode cX6_dancer 55 = .ok (.iload_n 1, 1) := by decide +kernel
theorem dX6_dancer_56 : decode cX6_dancer 56 = .ok (.iaload, 1) := by decide +kernel
theorem dX6_dancer_57 : decode cX6_dancer 57 = .ok (.ireturn, 1) := by decide +kernel
theorem dX6_dancer_58 : decode cX6_dancer 58 = .ok (.aload_n 0, 1) := by decide +kernel
theorem dX6_dancer_59 : decode cX6_dancer 59 = .ok (.getfield 10, 3) := by decide +kernel
theorem dX6_dancer_62 : decode cX6_dancer 62 = .ok (.getfield 77, 3) := by decide +kernel
theorem dX6_dancer_65 : decode cX6_dancer 65 = .ok (.iload_n 1, 1) := by decide +kernel
theorem dX6_dancer_66 : decode cX6_dancer 66 = .ok (.iaload, 1) := by decide +kernel
theorem dX6_dancer_67 : decode cX6_dancer 67 = .ok (.ireturn, 1) := by decide +kernel
theorem dX6_dancer_68 : decode cX6_dancer 68 = .ok (.aload_n 0, 1) := by decide +kernel
theorem dX6_dancer_69 : decode cX6_dancer 69 = .ok (.getfield 10, 3) := by decide +kernel
theorem dX6_dancer_72 : decode cX6_dancer 72 = .ok (.getfield 80, 3) := by decide +kernel
theorem dX6_dancer_75 : decode cX6_dancer 75 = .ok (.iload_n 1, 1) := by decide +kernel
theorem dX6_dancer_76 : decode cX6_dancer 76 = .ok (.iaload, 1) := by decide +kernel
theorem dX6_dancer_77 : decode cX6_dancer 77 = .ok (.ireturn, 1) := by decide +kernel
theorem dX6_dancer_78 : decode cX6_dancer 78 = .ok (.aload_n 0, 1) := by decide +kernel
theorem dX6_dancer_79 : decode cX6_dancer 79 = .ok (.getfield 10, 3) := by decide +kernel
theorem dX6_dancer_82 : decode cX6_dancer 82 = .ok (.getfield 83, 3) := by decide +kernel
theorem dX6_dancer_85 : decode cX6_dancer 85 = .ok (.iload_n 1, 1) := by decide +kernel
theorem dX6_dancer_86 : decode cX6_dancer 86 = .ok (.iaload, 1) := by decide +kernel
theorem dX6_dancer_87 : decode cX6_dancer 87 = .ok (.invokestatic 86, 3) := by decide +kernel
theorem dX6_dancer_90 : decode cX6_dancer 90 = .ok (.ireturn, 1) := by decide +kernel
theorem dX6_dancer_91 : decode cX6_dancer 91 = .ok (.aload_n 0, 1) := by decide +kernel
theorem dX6_dancer_92 : decode cX6_dancer 92 = .ok (.bipush (-2), 2) := by decide +kernel
theorem dX6_dancer_94 : decode cX6_dancer 94 = .ok (.invokevirtual 55, 3) := by decide +kernel
theorem dX6_dancer_97 : decode cX6_dancer 97 = .ok (.ireturn, 1) := by decide +kernel
set_option maxRecDepth 20000 in
theorem ggX6_law_X6_isLaw : GoodIn wsX6_law wsX6_isLaw := goodIn_r _ [6] (by decide +kernel) (by decide +kernel)
set_option maxRecDepth 20000 in
theorem gX6_law_X6_isLaw : GoodIn wsX6_law (va_wsS RX6 91 yX6_isLaw wsX6_isLaw) := goodIn_app (goodIn_of _ (by decide +kernel)) ggX6_law_X6_isLaw
set_option maxRecDepth 20000 in
theorem ggX6_law_X6_refuse : GoodIn wsX6_law wsX6_refuse := goodIn_r _ [10, 11, 12, 13, 14, 15, 16, 17, 18, 19] (by decide +kernel) (by decide +kernel)
set_option maxRecDepth 20000 in
theorem gX6_law_X6_refuse : GoodIn wsX6_law (wsV RX6 55 RX6 yX6_refuse wsX6_refuse) := goodIn_app (goodIn_of _ (by decide +kernel)) ggX6_law_X6_refuse
theorem dX6_law_0 : decode cX6_law 0 = .ok (.iload_n 1, 1) := by decide +kernel
theorem dX6_law_1 : decode cX6_law 1 = .ok (.invokestatic 91, 3) := by decide +kernel
theorem dX6_law_4 : decode cX6_law 4 = .ok (.ifCond .ne 10, 3) := by decide +kernel
theorem dX6_law_7 : decode cX6_law 7 = .ok (.aload_n 0, 1) := by decide +kernel
theorem dX6_law_8 : decode cX6_law 8 = .ok (.bipush (-2), 2) := by decide +kernel
theorem dX6_law_10 : decode cX6_law 10 = .ok (.invokevirtual 55, 3) := by decide +kernel
theorem dX6_law_13 : decode cX6_law 13 = .ok (.ireturn, 1) := by decide +kernel
theorem dX6_law_14 : decode cX6_law 14 = .ok (.aload_n 0, 1) := by decide +kernel
theorem dX6_law_15 : decode cX6_law 15 = .ok (.getfield 10, 3) := by decide +kernel
theorem dX6_law_18 : decode cX6_law 18 = .ok (.getfield 94, 3) := by decide +kernel
theorem dX6_law_21 : decode cX6_law 21 = .ok (.istore_n 2, 1) := by decide +kernel
theorem dX6_law_22 : decode cX6_law 22 = .ok (.aload_n 0, 1) := by decide +kernel
theorem dX6_law_23 : decode cX6_law 23 = .ok (.getfield 10, 3) := by decide +kernel
theorem dX6_law_26 : decode cX6_law 26 = .ok (.iload_n 1, 1) := by decide +kernel
theorem dX6_law_27 : decode cX6_law 27 = .ok (.putfield 94, 3) := by decide +kernel
theorem dX6_law_30 : decode cX6_law 30 = .ok (.iload_n 2, 1) := by decide +kernel
theorem dX6_law_31 : decode cX6_law 31 = .ok (.ireturn, 1) := by decide +kernel
set_option maxRecDepth 20000 in
theorem ggX6_danced_X2_areTwo : GoodIn wsX6_danced wsX2_areTwo := goodIn_r _ [6, 7, 8, 9, 5, 10, 11, 36, 37, 38, 39, 40, 41] (by decide +kernel) (by decide +kernel)
set_option maxRecDepth 20000 in
theorem gX6_danced_X2_areTwo : GoodIn wsX6_danced (wsV RX6 97 RX2 yX2_areTwo wsX2_areTwo) := goodIn_app (goodIn_of _ (by decide +kernel)) ggX6_danced_X2_areTwo
set_option maxRecDepth 20000 in
theorem ggX6_danced_X6_refuse : GoodIn wsX6_danced wsX6_refuse := goodIn_r _ [16, 17, 28, 29, 30, 31, 32, 33, 34, 35] (by decide +kernel) (by decide +kernel)
set_option maxRecDepth 20000 in
theorem gX6_danced_X6_refuse : GoodIn wsX6_danced (wsV RX6 55 RX6 yX6_refuse wsX6_refuse) := goodIn_app (goodIn_of _ (by decide +kernel)) ggX6_danced_X6_refuse
set_option maxRecDepth 20000 in
theorem ggX6_danced_X2_haveDanced : GoodIn wsX6_danced wsX2_haveDanced := goodIn_r _ [21, 22, 23, 15, 24, 36, 37, 38, 39, 40, 41] (by decide +kernel) (by decide +kernel)
set_option maxRecDepth 20000 in
theorem gX6_danced_X2_haveDanced : GoodIn wsX6_danced (wsV RX6 101 RX2 yX2_haveDanced wsX2_haveDanced) := goodIn_app (goodIn_of _ (by decide +kernel)) ggX6_danced_X2_haveDanced
set_option maxRecDepth 20000 in
theorem ggX6_danced_X6_asNumber : GoodIn wsX6_danced wsX6_asNumber := goodIn_r _ [27] (by decide +kernel) (by decide +kernel)
set_option maxRecDepth 20000 in
theorem gX6_danced_X6_asNumber : GoodIn wsX6_danced (va_wsS RX6 104 yX6_asNumber wsX6_asNumber) := goodIn_app (goodIn_of _ (by decide +kernel)) ggX6_danced_X6_asNumber
theorem dX6_danced_0 : decode cX6_danced 0 = .ok (.aload_n 0, 1) := by decide +kernel
theorem dX6_danced_1 : decode cX6_danced 1 = .ok (.getfield 10, 3) := by decide +kernel
theorem dX6_danced_4 : decode cX6_danced 4 = .ok (.iload_n 1, 1) := by decide +kernel
theorem dX6_danced_5 : decode cX6_danced 5 = .ok (.iload_n 2, 1) := by decide +kernel
theorem dX6_danced_6 : decode cX6_danced 6 = .ok (.invokevirtual 97, 3) := by decide +kernel
theorem dX6_danced_9 : decode cX6_danced 9 = .ok (.ifCond .ne 9, 3) := by decide +kernel
theorem dX6_danced_12 : decode cX6_danced 12 = .ok (.aload_n 0, 1) := by decide +kernel
theorem dX6_danced_13 : decode cX6_danced 13 = .ok (.iconst (-1), 1) := by decide +kernel
theorem dX6_danced_14 : decode cX6_danced 14 = .ok (.invokevirtual 55, 3) := by decide +kernel
theorem dX6_danced_17 : decode cX6_danced 17 = .ok (.ireturn, 1) := by decide +kernel
theorem dX6_danced_18 : decode cX6_danced 18 = .ok (.aload_n 0, 1) := by decide +kernel
theorem dX6_danced_19 : decode cX6_danced 19 = .ok (.getfield 10, 3) := by decide +kernel
theorem dX6_danced_22 : decode cX6_danced 22 = .ok (.iload_n 1, 1) := by decide +kernel
theorem dX6_danced_23 : decode cX6_danced 23 = .ok (.iload_n 2, 1) := by decide +kernel
theorem dX6_danced_24 : decode cX6_danced 24 = .ok (.invokevirtual 101, 3) := by decide +kernel
theorem dX6_danced_27 : decode cX6_danced 27 = .ok (.invokestatic 104, 3) := by decide +kernel
theorem dX6_danced_30 : decode cX6_danced 30 = .ok (.ireturn, 1) := by decide +kernel
set_option maxRecDepth 20000 in
theorem ggX6_bringers_X2_areTwo : GoodIn wsX6_bringers wsX2_areTwo := goodIn_r _ [6, 7, 8, 9, 5, 10, 11, 55, 56, 57, 58, 59, 60] (by decide +kernel) (by decide +kernel)
set_option maxRecDepth 20000 in
theorem gX6_bringers_X2_areTwo : GoodIn wsX6_bringers (wsV RX6 97 RX2 yX2_areTwo wsX2_areTwo) := goodIn_app (goodIn_of _ (by decide +kernel)) ggX6_bringers_X2_areTwo
set_option maxRecDepth 20000 in
theorem ggX6_bringers_X6_refuse : GoodIn wsX6_bringers wsX6_refuse := goodIn_r _ [16, 17, 47, 48, 49, 50, 51, 52, 53, 54] (by decide +kernel) (by decide +kernel)
set_option maxRecDepth 20000 in
theorem gX6_bringers_X6_refuse : GoodIn wsX6_bringers (wsV RX6 55 RX6 yX6_refuse wsX6_refuse) := goodIn_app (goodIn_of _ (by decide +kernel)) ggX6_bringers_X6_refuse
set_option maxRecDepth 20000 in
theorem ggX6_bringers_X2_whoBring : GoodIn wsX6_bringers wsX2_whoBring := goodIn_r _ [21, 22, 23, 24, 25, 26, 27, 11, 28, 15, 29, 30, 31, 32, 5, 33, 34, 35, 36, 37, 38, 39, 40, 41, 42, 43, 44, 45, 46, 55, 56, 57, 58, 59, 60] (by decide +kernel) (by decide +kernel)
set_option maxRecDepth 20000 in
theorem gX6_bringers_X2_whoBring : GoodIn wsX6_bringers (wsV RX6 108 RX2 yX2_whoBring wsX2_whoBring) := goodIn_app (goodIn_of _ (by decide +kernel)) ggX6_bringers_X2_whoBring
theorem dX6_bringers_0 : decode cX6_bringers 0 = .ok (.aload_n 0, 1) := by decide +kernel
theorem dX6_bringers_1 : decode cX6_bringers 1 = .ok (.getfield 10, 3) := by decide +kernel
theorem dX6_bringers_4 : decode cX6_bringers 4 = .ok (.iload_n 1, 1) := by decide +kernel
theorem dX6_bringers_5 : decode cX6_bringers 5 = .ok (.iload_n 2, 1) := by decide +kernel
theorem dX6_bringers_6 : decode cX6_bringers 6 = .ok (.invokevirtual 97, 3) := by decide +kernel
theorem dX6_bringers_9 : decode cX6_bringers 9 = .ok (.ifCond .ne 9, 3) := by decide +kernel
theorem dX6_bringers_12 : decode cX6_bringers 12 = .ok (.aload_n 0, 1) := by decide +kernel
theorem dX6_bringers_13 : decode cX6_bringers 13 = .ok (.iconst (-1), 1) := by decide +kernel
theorem dX6_bringers_14 : decode cX6_bringers 14 = .ok (.invokevirtual 55, 3) := by decide +kernel
theorem dX6_bringers_17 : decode cX6_bringers 17 = .ok (.ireturn, 1) := by decide +kernel
theorem dX6_bringers_18 : decode cX6_bringers 18 = .ok (.aload_n 0, 1) := by decide +kernel
theorem dX6_bringers_19 : decode cX6_bringers 19 = .ok (.getfield 10, 3) := by decide +kernel
theorem dX6_bringers_22 : decode cX6_bringers 22 = .ok (.iload_n 1, 1) := by decide +kernel
theorem dX6_bringers_23 : decode cX6_bringers 23 = .ok (.iload_n 2, 1) := by decide +kernel
theorem dX6_bringers_24 : decode cX6_bringers 24 = .ok (.invokevirtual 108, 3) := by decide +kernel
theorem dX6_bringers_27 : decode cX6_bringers 27 = .ok (.ireturn, 1) := by decide +kernel
set_option maxRecDepth 20000 in
theorem ggX6_may_X2_areTwo : GoodIn wsX6_may wsX2_areTwo := goodIn_r _ [6, 7, 8, 9, 5, 10, 11, 74, 75, 76, 77, 78, 79] (by decide +kernel) (by decide +kernel)
set_option maxRecDepth 20000 in
theorem gX6_may_X2_areTwo : GoodIn wsX6_may (wsV RX6 97 RX2 yX2_areTwo wsX2_areTwo) := goodIn_app (goodIn_of _ (by decide +kernel)) ggX6_may_X2_areTwo
set_option maxRecDepth 20000 in
theorem ggX6_may_X6_refuse : GoodIn wsX6_may wsX6_refuse := goodIn_r _ [16, 17, 66, 67, 68, 69, 70, 71, 72, 73] (by decide +kernel) (by decide +kernel)
set_option maxRecDepth 20000 in
theorem gX6_may_X6_refuse : GoodIn wsX6_may (wsV RX6 55 RX6 yX6_refuse wsX6_refuse) := goodIn_app (goodIn_of _ (by decide +kernel)) ggX6_may_X6_refuse
set_option maxRecDepth 20000 in
theorem ggX6_may_X2_isAllowed : GoodIn wsX6_may wsX2_isAllowed := goodIn_r _ [21, 22, 23, 24, 5, 25, 26, 27, 28, 29, 30, 31, 32, 15, 33, 34, 35, 36, 37, 38, 39, 40, 41, 11, 42, 43, 44, 45, 46, 47, 48, 49, 50, 51, 52, 53, 54, 55, 56, 57, 58, 59, 60, 61, 62, 74, 75, 76, 77, 78, 79] (by decide +kernel) (by decide +kernel)
set_option maxRecDepth 20000 in
theorem gX6_may_X2_isAllowed : GoodIn wsX6_may (wsV RX6 112 RX2 yX2_isAllowed wsX2_isAllowed) := goodIn_app (goodIn_of _ (by decide +kernel)) ggX6_may_X2_isAllowed
set_option maxRecDepth 20000 in
theorem ggX6_may_X6_asNumber : GoodIn wsX6_may wsX6_asNumber := goodIn_r _ [65] (by decide +kernel) (by decide +kernel)
set_option maxRecDepth 20000 in
theorem gX6_may_X6_asNumber : GoodIn wsX6_may (va_wsS RX6 104 yX6_asNumber wsX6_asNumber) := goodIn_app (goodIn_of _ (by decide +kernel)) ggX6_may_X6_asNumber
theorem dX6_may_0 : decode cX6_may 0 = .ok (.aload_n 0, 1) := by decide +kernel
theorem dX6_may_1 : decode cX6_may 1 = .ok (.getfield 10, 3) := by decide +kernel
theorem dX6_may_4 : decode cX6_may 4 = .ok (.iload_n 1, 1) := by decide +kernel
theorem dX6_may_5 : decode cX6_may 5 = .ok (.iload_n 2, 1) := by decide +kernel
theorem dX6_may_6 : decode cX6_may 6 = .ok (.invokevirtual 97, 3) := by decide +kernel
theorem dX6_may_9 : decode cX6_may 9 = .ok (.ifCond .ne 9, 3) := by decide +kernel
theorem dX6_may_12 : decode cX6_may 12 = .ok (.aload_n 0, 1) := by decide +kernel
theorem dX6_may_13 : decode cX6_may 13 = .ok (.iconst (-1), 1) := by decide +kernel
theorem dX6_may_14 : decode cX6_may 14 = .ok (.invokevirtual 55, 3) := by decide +kernel
theorem dX6_may_17 : decode cX6_may 17 = .ok (.ireturn, 1) := by decide +kernel
theorem dX6_may_18 : decode cX6_may 18 = .ok (.aload_n 0, 1) := by decide +kernel
theorem dX6_may_19 : decode cX6_may 19 = .ok (.getfield 10, 3) := by decide +kernel
theorem dX6_may_22 : decode cX6_may 22 = .ok (.iload_n 1, 1) := by decide +kernel
theorem dX6_may_23 : decode cX6_may 23 = .ok (.iload_n 2, 1) := by decide +kernel
theorem dX6_may_24 : decode cX6_may 24 = .ok (.invokevirtual 112, 3) := by decide +kernel
theorem dX6_may_27 : decode cX6_may 27 = .ok (.invokestatic 104, 3) := by decide +kernel
theorem dX6_may_30 : decode cX6_may 30 = .ok (.ireturn, 1) := by decide +kernel
set_option maxRecDepth 20000 in
theorem ggX6_dance_X2_areTwo : GoodIn wsX6_dance wsX2_areTwo := goodIn_r _ [6, 7, 8, 9, 5, 10, 11, 87, 88, 89, 90, 91, 92] (by decide +kernel) (by decide +kernel)
set_option maxRecDepth 20000 in
theorem gX6_dance_X2_areTwo : GoodIn wsX6_dance (wsV RX6 97 RX2 yX2_areTwo wsX2_areTwo) := goodIn_app (goodIn_of _ (by decide +kernel)) ggX6_dance_X2_areTwo
set_option maxRecDepth 20000 in
theorem ggX6_dance_X6_refuse : GoodIn wsX6_dance wsX6_refuse := goodIn_r _ [16, 17, 79, 80, 81, 82, 83, 84, 85, 86] (by decide +kernel) (by decide +kernel)
set_option maxRecDepth 20000 in
theorem gX6_dance_X6_refuse : GoodIn wsX6_dance (wsV RX6 55 RX6 yX6_refuse wsX6_refuse) := goodIn_app (goodIn_of _ (by decide +kernel)) ggX6_dance_X6_refuse
set_option maxRecDepth 20000 in
theorem ggX6_dance_X2_isAllowedBy : GoodIn wsX6_dance wsX2_isAllowedBy := goodIn_r _ [21, 22, 23, 24, 5, 25, 26, 27, 28, 29, 30, 31, 32, 15, 33, 34, 35, 36, 37, 38, 39, 40, 41, 11, 42, 43, 44, 45, 46, 47, 48, 49, 50, 51, 52, 53, 54, 55, 56, 57, 58, 59, 60, 61, 62, 87, 88, 89, 90, 91, 92] (by decide +kernel) (by decide +kernel)
set_option maxRecDepth 20000 in
theorem gX6_dance_X2_isAllowedBy : GoodIn wsX6_dance (wsV RX6 115 RX2 yX2_isAllowedBy wsX2_isAllowedBy) := goodIn_app (goodIn_of _ (by decide +kernel)) ggX6_dance_X2_isAllowedBy
set_option maxRecDepth 20000 in
theorem ggX6_dance_X2_step : GoodIn wsX6_dance wsX2_step := goodIn_r _ [66, 26, 46, 7, 8, 9, 5, 10, 11, 34, 35, 36, 37, 31, 38, 39, 40, 41, 32, 15, 33, 42, 43, 44, 45, 47, 48, 49, 50, 51, 52, 53, 54, 55, 56, 57, 58, 67, 68, 69, 70, 71, 72, 73, 74, 3, 4, 6, 87, 88, 89, 90, 91, 92] (by decide +kernel) (by decide +kernel)
set_option maxRecDepth 20000 in
theorem gX6_dance_X2_step : GoodIn wsX6_dance (wsV RX6 119 RX2 yX2_step wsX2_step) := goodIn_app (goodIn_of _ (by decide +kernel)) ggX6_dance_X2_step
set_option maxRecDepth 20000 in
theorem ggX6_dance_X2_pairsDanced : GoodIn wsX6_dance wsX2_pairsDanced := goodIn_r _ [78, 11, 31, 52, 53, 54, 55, 56, 57, 58, 87, 88, 89, 90, 91, 92] (by decide +kernel) (by decide +kernel)
set_option maxRecDepth 20000 in
theorem gX6_dance_X2_pairsDanced : GoodIn wsX6_dance (wsV RX6 123 RX2 yX2_pairsDanced wsX2_pairsDanced) := goodIn_app (goodIn_of _ (by decide +kernel)) ggX6_dance_X2_pairsDanced
theorem dX6_dance_0 : decode cX6_dance 0 = .ok (.aload_n 0, 1) := by decide +kernel
theorem dX6_dance_1 : decode cX6_dance 1 = .ok (.getfield 10, 3) := by decide +kernel
theorem dX6_dance_4 : decode cX6_dance 4 = .ok (.iload_n 1, 1) := by decide +kernel
theorem dX6_dance_5 : decode cX6_dance 5 = .ok (.iload_n 2, 1) := by decide +kernel
theorem dX6_dance_6 : decode cX6_dance 6 = .ok (.invokevirtual 97, 3) := by decide +kernel
theorem dX6_dance_9 : decode cX6_dance 9 = .ok (.ifCond .ne 9, 3) := by decide +kernel
theorem dX6_dance_12 : decode cX6_dance 12 = .ok (.aload_n 0, 1) := by decide +kernel
theorem dX6_dance_13 : decode cX6_dance 13 = .ok (.iconst (-1), 1) := by decide +kernel
theorem dX6_dance_14 : decode cX6_dance 14 = .ok (.invokevirtual 55, 3) := by decide +kernel
theorem dX6_dance_17 : decode cX6_dance 17 = .ok (.ireturn, 1) := by decide +kernel
theorem dX6_dance_18 : decode cX6_dance 18 = .ok (.aload_n 0, 1) := by decide +kernel
theorem dX6_dance_19 : decode cX6_dance 19 = .ok (.getfield 10, 3) := by decide +kernel
theorem dX6_dance_22 : decode cX6_dance 22 = .ok (.iload_n 1, 1) := by decide +kernel
theorem dX6_dance_23 : decode cX6_dance 23 = .ok (.iload_n 2, 1) := by decide +kernel
theorem dX6_dance_24 : decode cX6_dance 24 = .ok (.iload_n 3, 1) := by decide +kernel
theorem dX6_dance_25 : decode cX6_dance 25 = .ok (.invokevirtual 115, 3) := by decide +kernel
theorem dX6_dance_28 : decode cX6_dance 28 = .ok (.ifCond .ne 10, 3) := by decide +kernel
theorem dX6_dance_31 : decode cX6_dance 31 = .ok (.aload_n 0, 1) := by decide +kernel
theorem dX6_dance_32 : decode cX6_dance 32 = .ok (.bipush (-3), 2) := by decide +kernel
theorem dX6_dance_34 : decode cX6_dance 34 = .ok (.invokevirtual 55, 3) := by decide +kernel
theorem dX6_dance_37 : decode cX6_dance 37 = .ok (.ireturn, 1) := by decide +kernel
theorem dX6_dance_38 : decode cX6_dance 38 = .ok (.aload_n 0, 1) := by decide +kernel
theorem dX6_dance_39 : decode cX6_dance 39 = .ok (.getfield 10, 3) := by decide +kernel
theorem dX6_dance_42 : decode cX6_dance 42 = .ok (.iload_n 1, 1) := by decide +kernel
theorem dX6_dance_43 : decode cX6_dance 43 = .ok (.iload_n 2, 1) := by decide +kernel
theorem dX6_dance_44 : decode cX6_dance 44 = .ok (.iload_n 3, 1) := by decide +kernel
theorem dX6_dance_45 : decode cX6_dance 45 = .ok (.invokevirtual 119, 3) := by decide +kernel
theorem dX6_dance_48 : decode cX6_dance 48 = .ok (.aload_n 0, 1) := by decide +kernel
theorem dX6_dance_49 : decode cX6_dance 49 = .ok (.getfield 10, 3) := by decide +kernel
theorem dX6_dance_52 : decode cX6_dance 52 = .ok (.invokevirtual 123, 3) := by decide +kernel
theorem dX6_dance_55 : decode cX6_dance 55 = .ok (.ireturn, 1) := by decide +kernel
set_option maxRecDepth 20000 in
theorem ggX6_night_X2_forgetBrought : GoodIn wsX6_night wsX2_forgetBrought := goodIn_r _ [6, 7, 8, 17, 18, 19, 20, 21, 22] (by decide +kernel) (by decide +kernel)
set_option maxRecDepth 20000 in
theorem gX6_night_X2_forgetBrought : GoodIn wsX6_night (wsV RX6 127 RX2 yX2_forgetBrought wsX2_forgetBrought) := goodIn_app (goodIn_of _ (by decide +kernel)) ggX6_night_X2_forgetBrought
theorem dX6_night_0 : decode cX6_night 0 = .ok (.aload_n 0, 1) := by decide +kernel
theorem dX6_night_1 : decode cX6_night 1 = .ok (.getfield 10, 3) := by decide +kernel
theorem dX6_night_4 : decode cX6_night 4 = .ok (.invokevirtual 127, 3) := by decide +kernel
theorem dX6_night_7 : decode cX6_night 7 = .ok (.ireturn, 1) := by decide +kernel
set_option maxRecDepth 20000 in
theorem ggX6_ever_X2_areTwo : GoodIn wsX6_ever wsX2_areTwo := goodIn_r _ [7, 8, 9, 10, 6, 11, 12, 94, 95, 96, 97, 98, 99] (by decide +kernel) (by decide +kernel)
set_option maxRecDepth 20000 in
theorem gX6_ever_X2_areTwo : GoodIn wsX6_ever (wsV RX6 97 RX2 yX2_areTwo wsX2_areTwo) := goodIn_app (goodIn_of _ (by decide +kernel)) ggX6_ever_X2_areTwo
set_option maxRecDepth 20000 in
theorem ggX6_ever_X6_refuse : GoodIn wsX6_ever wsX6_refuse := goodIn_r _ [17, 18, 86, 87, 88, 89, 90, 91, 92, 93] (by decide +kernel) (by decide +kernel)
set_option maxRecDepth 20000 in
theorem gX6_ever_X6_refuse : GoodIn wsX6_ever (wsV RX6 55 RX6 yX6_refuse wsX6_refuse) := goodIn_app (goodIn_of _ (by decide +kernel)) ggX6_ever_X6_refuse
set_option maxRecDepth 20000 in
theorem ggX6_ever_X3_isEver : GoodIn wsX6_ever wsX3_isEver := goodIn_r _ [23, 24, 25, 26, 22, 27, 28, 29, 30, 31, 32, 33, 34, 35, 36, 37, 38, 39, 40, 41, 42, 43, 44, 45, 46, 47, 48, 6, 49, 50, 51, 52, 53, 54, 55, 56, 57, 58, 59, 60, 61, 62, 63, 64, 65, 16, 66, 67, 68, 69, 70, 71, 72, 73, 74, 75, 76, 77, 78, 79, 80, 81, 82, 100, 94, 95, 96, 97, 98, 99, 101, 102, 103, 104, 105, 106, 107] (by decide +kernel) (by decide +kernel)
set_option maxRecDepth 20000 in
theorem gX6_ever_X3_isEver : GoodIn wsX6_ever (wsV RX6 130 RX3 yX3_isEver wsX3_isEver) := goodIn_app (goodIn_of _ (by decide +kernel)) ggX6_ever_X3_isEver
set_option maxRecDepth 20000 in
theorem ggX6_ever_X6_asNumber : GoodIn wsX6_ever wsX6_asNumber := goodIn_r _ [85] (by decide +kernel) (by decide +kernel)
set_option maxRecDepth 20000 in
theorem gX6_ever_X6_asNumber : GoodIn wsX6_ever (va_wsS RX6 104 yX6_asNumber wsX6_asNumber) := goodIn_app (goodIn_of _ (by decide +kernel)) ggX6_ever_X6_asNumber
theorem dX6_ever_0 : decode cX6_ever 0 = .ok (.aload_n 0, 1) := by decide +kernel
theorem dX6_ever_1 : decode cX6_ever 1 = .ok (.getfield 10, 3) := by decide +kernel
theorem dX6_ever_4 : decode cX6_ever 4 = .ok (.iload_n 1, 1) := by decide +kernel
theorem dX6_ever_5 : decode cX6_ever 5 = .ok (.iload_n 2, 1) := by decide +kernel
theorem dX6_ever_6 : decode cX6_ever 6 = .ok (.invokevirtual 97, 3) := by decide +kernel
theorem dX6_ever_9 : decode cX6_ever 9 = .ok (.ifCond .ne 9, 3) := by decide +kernel
theorem dX6_ever_12 : decode cX6_ever 12 = .ok (.aload_n 0, 1) := by decide +kernel
theorem dX6_ever_13 : decode cX6_ever 13 = .ok (.iconst (-1), 1) := by decide +kernel
theorem dX6_ever_14 : decode cX6_ever 14 = .ok (.invokevirtual 55, 3) := by decide +kernel
theorem dX6_ever_17 : decode cX6_ever 17 = .ok (.ireturn, 1) := by decide +kernel
theorem dX6_ever_18 : decode cX6_ever 18 = .ok (.aload_n 0, 1) := by decide +kernel
theorem dX6_ever_19 : decode cX6_ever 19 = .ok (.getfield 29, 3) := by decide +kernel
theorem dX6_ever_22 : decode cX6_ever 22 = .ok (.aload_n 0, 1) := by decide +kernel
theorem dX6_ever_23 : decode cX6_ever 23 = .ok (.getfield 10, 3) := by decide +kernel
theorem dX6_ever_26 : decode cX6_ever 26 = .ok (.iload_n 1, 1) := by decide +kernel
theorem dX6_ever_27 : decode cX6_ever 27 = .ok (.iload_n 2, 1) := by decide +kernel
theorem dX6_ever_28 : decode cX6_ever 28 = .ok (.invokevirtual 130, 3) := by decide +kernel
theorem dX6_ever_31 : decode cX6_ever 31 = .ok (.invokestatic 104, 3) := by decide +kernel
theorem dX6_ever_34 : decode cX6_ever 34 = .ok (.ireturn, 1) := by decide +kernel
set_option maxRecDepth 20000 in
theorem ggX6_round_X2_areTwo : GoodIn wsX6_round wsX2_areTwo := goodIn_r _ [7, 8, 9, 10, 6, 11, 12, 83, 84, 85, 86, 87, 88] (by decide +kernel) (by decide +kernel)
set_option maxRecDepth 20000 in
theorem gX6_round_X2_areTwo : GoodIn wsX6_round (wsV RX6 97 RX2 yX2_areTwo wsX2_areTwo) := goodIn_app (goodIn_of _ (by decide +kernel)) ggX6_round_X2_areTwo
set_option maxRecDepth 20000 in
theorem ggX6_round_X6_refuse : GoodIn wsX6_round wsX6_refuse := goodIn_r _ [17, 18, 75, 76, 77, 78, 79, 80, 81, 82] (by decide +kernel) (by decide +kernel)
set_option maxRecDepth 20000 in
theorem gX6_round_X6_refuse : GoodIn wsX6_round (wsV RX6 55 RX6 yX6_refuse wsX6_refuse) := goodIn_app (goodIn_of _ (by decide +kernel)) ggX6_round_X6_refuse
set_option maxRecDepth 20000 in
theorem ggX6_round_X3_roundOf : GoodIn wsX6_round wsX3_roundOf := goodIn_r _ [23, 24, 25, 26, 27, 28, 29, 30, 31, 32, 33, 34, 35, 36, 37, 38, 39, 40, 41, 42, 43, 44, 6, 45, 46, 47, 48, 49, 50, 51, 52, 16, 53, 54, 55, 56, 57, 58, 59, 60, 61, 62, 63, 64, 65, 66, 67, 68, 69, 70, 71, 72, 73, 74, 89, 83, 84, 85, 86, 87, 88, 90, 91, 92, 93, 94, 95, 96] (by decide +kernel) (by decide +kernel)
set_option maxRecDepth 20000 in
theorem gX6_round_X3_roundOf : GoodIn wsX6_round (wsV RX6 134 RX3 yX3_roundOf wsX3_roundOf) := goodIn_app (goodIn_of _ (by decide +kernel)) ggX6_round_X3_roundOf
theorem dX6_round_0 : decode cX6_round 0 = .ok (.aload_n 0, 1) := by decide +kernel
theorem dX6_round_1 : decode cX6_round 1 = .ok (.getfield 10, 3) := by decide +kernel
theorem dX6_round_4 : decode cX6_round 4 = .ok (.iload_n 1, 1) := by decide +kernel
theorem dX6_round_5 : decode cX6_round 5 = .ok (.iload_n 2, 1) := by decide +kernel
theorem dX6_round_6 : decode cX6_round 6 = .ok (.invokevirtual 97, 3) := by decide +kernel
theorem dX6_round_9 : decode cX6_round 9 = .ok (.ifCond .ne 9, 3) := by decide +kernel
theorem dX6_round_12 : decode cX6_round 12 = .ok (.aload_n 0, 1) := by decide +kernel
theorem dX6_round_13 : decode cX6_round 13 = .ok (.iconst (-1), 1) := by decide +kernel
theorem dX6_round_14 : decode cX6_round 14 = .ok (.invokevirtual 55, 3) := by decide +kernel
theorem dX6_round_17 : decode cX6_round 17 = .ok (.ireturn, 1) := by decide +kernel
theorem dX6_round_18 : decode cX6_round 18 = .ok (.aload_n 0, 1) := by decide +kernel
theorem dX6_round_19 : decode cX6_round 19 = .ok (.getfield 29, 3) := by decide +kernel
theorem dX6_round_22 : decode cX6_round 22 = .ok (.aload_n 0, 1) := by decide +kernel
theorem dX6_round_23 : decode cX6_round 23 = .ok (.getfield 10, 3) := by decide +kernel
theorem dX6_round_26 : decode cX6_round 26 = .ok (.iload_n 1, 1) := by decide +kernel
theorem dX6_round_27 : decode cX6_round 27 = .ok (.iload_n 2, 1) := by decide +kernel
theorem dX6_round_28 : decode cX6_round 28 = .ok (.invokevirtual 134, 3) := by decide +kernel
theorem dX6_round_31 : decode cX6_round 31 = .ok (.ireturn, 1) := by decide +kernel
set_option maxRecDepth 20000 in
theorem ggX6_closed_X3_pairsInTheEnd : GoodIn wsX6_closed wsX3_pairsInTheEnd := goodIn_r _ [8, 9, 10, 11, 12, 13, 14, 15, 16, 17, 18, 19, 20, 21, 22, 23, 24, 25, 26, 27, 28, 29, 30, 31, 32, 33, 34, 35, 36, 37, 38, 39, 40, 41, 42, 43, 44, 45, 46, 47, 48, 49, 50, 51, 52, 53, 54, 55, 56, 57, 58, 59, 60, 61, 62, 63, 64, 65, 66, 67, 68, 69, 108, 109, 110, 111, 112, 113, 114, 115, 102, 103, 104, 105, 106, 107] (by decide +kernel) (by decide +kernel)
set_option maxRecDepth 20000 in
theorem gX6_closed_X3_pairsInTheEnd : GoodIn wsX6_closed (wsV RX6 138 RX3 yX3_pairsInTheEnd wsX3_pairsInTheEnd) := goodIn_app (goodIn_of _ (by decide +kernel)) ggX6_closed_X3_pairsInTheEnd
set_option maxRecDepth 20000 in
theorem ggX6_closed_X3_roundsTillTheEnd : GoodIn wsX6_closed wsX3_roundsTillTheEnd := goodIn_r _ [73, 74, 75, 76, 77, 7, 78, 9, 11, 12, 13, 14, 15, 16, 17, 18, 19, 20, 21, 22, 23, 24, 25, 26, 27, 28, 29, 30, 31, 32, 33, 34, 35, 36, 37, 38, 39, 40, 41, 42, 43, 44, 45, 46, 47, 48, 49, 50, 51, 52, 53, 54, 55, 56, 57, 58, 59, 60, 61, 62, 63, 64, 65, 109, 110, 111, 112, 113, 114, 115, 108, 102, 103, 104, 105, 106, 107] (by decide +kernel) (by decide +kernel)
set_option maxRecDepth 20000 in
theorem gX6_closed_X3_roundsTillTheEnd : GoodIn wsX6_closed (wsV RX6 142 RX3 yX3_roundsTillTheEnd wsX3_roundsTillTheEnd) := goodIn_app (goodIn_of _ (by decide +kernel)) ggX6_closed_X3_roundsTillTheEnd
set_option maxRecDepth 20000 in
theorem ggX6_closed_X2_heaps : GoodIn wsX6_closed wsX2_heaps := goodIn_r _ [82, 83, 48, 49, 50, 84, 85, 86, 31, 87, 88, 102, 103, 104, 105, 106, 107] (by decide +kernel) (by decide +kernel)
set_option maxRecDepth 20000 in
theorem gX6_closed_X2_heaps : GoodIn wsX6_closed (wsV RX6 145 RX2 yX2_heaps wsX2_heaps) := goodIn_app (goodIn_of _ (by decide +kernel)) ggX6_closed_X2_heaps
set_option maxRecDepth 20000 in
theorem ggX6_closed_X6_refuse : GoodIn wsX6_closed wsX6_refuse := goodIn_r _ [92, 93, 94, 95, 96, 97, 98, 99, 100, 101] (by decide +kernel) (by decide +kernel)
set_option maxRecDepth 20000 in
theorem gX6_closed_X6_refuse : GoodIn wsX6_closed (wsV RX6 55 RX6 yX6_refuse wsX6_refuse) := goodIn_app (goodIn_of _ (by decide +kernel)) ggX6_closed_X6_refuse
theorem dX6_closed_0 : decode cX6_closed 0 = .ok (.iload_n 1, 1) := by decide +kernel
theorem dX6_closed_1 : decode cX6_closed 1 = .ok (.tableswitch 66 0 2 #[27, 46, 58], 27) := by decide +kernel
theorem dX6_closed_28 : decode cX6_closed 28 = .ok (.aload_n 0, 1) := by decide +kernel
theorem dX6_closed_29 : decode cX6_closed 29 = .ok (.getfield 29, 3) := by decide +kernel
theorem dX6_closed_32 : decode cX6_closed 32 = .ok (.aload_n 0, 1) := by decide +kernel
theorem dX6_closed_33 : decode cX6_closed 33 = .ok (.getfield 10, 3) := by decide +kernel
theorem dX6_closed_36 : decode cX6_closed 36 = .ok (.aload_n 0, 1) := by decide +kernel
theorem dX6_closed_37 : decode cX6_closed 37 = .ok (.getfield 10, 3) := by decide +kernel
theorem dX6_closed_40 : decode cX6_closed 40 = .ok (.getfield 94, 3) := by decide +kernel
theorem dX6_closed_43 : decode cX6_closed 43 = .ok (.invokevirtual 138, 3) := by decide +kernel
theorem dX6_closed_46 : decode cX6_closed 46 = .ok (.ireturn, 1) := by decide +kernel
theorem dX6_closed_47 : decode cX6_closed 47 = .ok (.aload_n 0, 1) := by decide +kernel
theorem dX6_closed_48 : decode cX6_closed 48 = .ok (.getfield 29, 3) := by decide +kernel
theorem dX6_closed_51 : decode cX6_closed 51 = .ok (.aload_n 0, 1) := by decide +kernel
theorem dX6_closed_52 : decode cX6_closed 52 = .ok (.getfield 10, 3) := by decide +kernel
theorem dX6_closed_55 : decode cX6_closed 55 = .ok (.invokevirtual 142, 3) := by decide +kernel
theorem dX6_closed_58 : decode cX6_closed 58 = .ok (.ireturn, 1) := by decide +kernel
theorem dX6_closed_59 : decode cX6_closed 59 = .ok (.aload_n 0, 1) := by decide +kernel
theorem dX6_closed_60 : decode cX6_closed 60 = .ok (.getfield 10, 3) := by decide +kernel
theorem dX6_closed_63 : decode cX6_closed 63 = .ok (.invokevirtual 145, 3) := by decide +kernel
theorem dX6_closed_66 : decode cX6_closed 66 = .ok (.ireturn, 1) := by decide +kernel
theorem dX6_closed_67 : decode cX6_closed 67 = .ok (.aload_n 0, 1) := by decide +kernel
theorem dX6_closed_68 : decode cX6_closed 68 = .ok (.bipush (-2), 2) := by decide +kernel
theorem dX6_closed_70 : decode cX6_closed 70 = .ok (.invokevirtual 55, 3) := by decide +kernel
theorem dX6_closed_73 : decode cX6_closed 73 = .ok (.ireturn, 1) := by decide +kernel
set_option maxRecDepth 20000 in
theorem ggX6_opens_X2_areTwo : GoodIn wsX6_opens wsX2_areTwo := goodIn_r _ [7, 8, 9, 10, 6, 11, 12, 117, 118, 119, 120, 121, 122] (by decide +kernel) (by decide +kernel)
set_option maxRecDepth 20000 in
theorem gX6_opens_X2_areTwo : GoodIn wsX6_opens (wsV RX6 97 RX2 yX2_areTwo wsX2_areTwo) := goodIn_app (goodIn_of _ (by decide +kernel)) ggX6_opens_X2_areTwo
set_option maxRecDepth 20000 in
theorem ggX6_opens_X6_refuse : GoodIn wsX6_opens wsX6_refuse := goodIn_r _ [17, 18, 109, 110, 111, 112, 113, 114, 115, 116] (by decide +kernel) (by decide +kernel)
set_option maxRecDepth 20000 in
theorem gX6_opens_X6_refuse : GoodIn wsX6_opens (wsV RX6 55 RX6 yX6_refuse wsX6_refuse) := goodIn_app (goodIn_of _ (by decide +kernel)) ggX6_opens_X6_refuse
set_option maxRecDepth 20000 in
theorem ggX6_opens_X2_haveDanced : GoodIn wsX6_opens wsX2_haveDanced := goodIn_r _ [22, 23, 24, 16, 25, 117, 118, 119, 120, 121, 122] (by decide +kernel) (by decide +kernel)
set_option maxRecDepth 20000 in
theorem gX6_opens_X2_haveDanced : GoodIn wsX6_opens (wsV RX6 101 RX2 yX2_haveDanced wsX2_haveDanced) := goodIn_app (goodIn_of _ (by decide +kernel)) ggX6_opens_X2_haveDanced
set_option maxRecDepth 20000 in
theorem ggX6_opens_X3_opened : GoodIn wsX6_opens wsX3_opened := goodIn_r _ [30, 31, 32, 33, 29, 34, 35, 36, 37, 38, 39, 40, 41, 42, 43, 44, 45, 46, 47, 48, 49, 50, 51, 52, 53, 54, 55, 6, 56, 57, 58, 59, 60, 61, 62, 63, 64, 65, 66, 67, 68, 69, 70, 71, 24, 16, 25, 72, 73, 74, 75, 76, 77, 78, 79, 80, 81, 82, 83, 84, 85, 86, 87, 88, 89, 90, 91, 92, 93, 94, 95, 96, 97, 98, 99, 100, 101, 102, 103, 104, 105, 106, 107, 108, 123, 117, 118, 119, 120, 121, 122, 124, 125, 126, 127, 128, 129, 130] (by decide +kernel) (by decide +kernel)
set_option maxRecDepth 20000 in
theorem gX6_opens_X3_opened : GoodIn wsX6_opens (wsV RX6 148 RX3 yX3_opened wsX3_opened) := goodIn_app (goodIn_of _ (by decide +kernel)) ggX6_opens_X3_opened
theorem dX6_opens_0 : decode cX6_opens 0 = .ok (.aload_n 0, 1) := by decide +kernel
theorem dX6_opens_1 : decode cX6_opens 1 = .ok (.getfield 10, 3) := by decide +kernel
theorem dX6_opens_4 : decode cX6_opens 4 = .ok (.iload_n 1, 1) := by decide +kernel
theorem dX6_opens_5 : decode cX6_opens 5 = .ok (.iload_n 2, 1) := by decide +kernel
theorem dX6_opens_6 : decode cX6_opens 6 = .ok (.invokevirtual 97, 3) := by decide +kernel
theorem dX6_opens_9 : decode cX6_opens 9 = .ok (.ifCond .ne 9, 3) := by decide +kernel
theorem dX6_opens_12 : decode cX6_opens 12 = .ok (.aload_n 0, 1) := by decide +kernel
theorem dX6_opens_13 : decode cX6_opens 13 = .ok (.iconst (-1), 1) := by decide +kernel
theorem dX6_opens_14 : decode cX6_opens 14 = .ok (.invokevirtual 55, 3) := by decide +kernel
theorem dX6_opens_17 : decode cX6_opens 17 = .ok (.ireturn, 1) := by decide +kernel
theorem dX6_opens_18 : decode cX6_opens 18 = .ok (.aload_n 0, 1) := by decide +kernel
theorem dX6_opens_19 : decode cX6_opens 19 = .ok (.getfield 10, 3) := by decide +kernel
theorem dX6_opens_22 : decode cX6_opens 22 = .ok (.iload_n 1, 1) := by decide +kernel
theorem dX6_opens_23 : decode cX6_opens 23 = .ok (.iload_n 2, 1) := by decide +kernel
theorem dX6_opens_24 : decode cX6_opens 24 = .ok (.invokevirtual 101, 3) := by decide +kernel
theorem dX6_opens_27 : decode cX6_opens 27 = .ok (.ifCond .eq 10, 3) := by decide +kernel
theorem dX6_opens_30 : decode cX6_opens 30 = .ok (.aload_n 0, 1) := by decide +kernel
theorem dX6_opens_31 : decode cX6_opens 31 = .ok (.bipush (-3), 2) := by decide +kernel
theorem dX6_opens_33 : decode cX6_opens 33 = .ok (.invokevirtual 55, 3) := by decide +kernel
theorem dX6_opens_36 : decode cX6_opens 36 = .ok (.ireturn, 1) := by decide +kernel
theorem dX6_opens_37 : decode cX6_opens 37 = .ok (.aload_n 0, 1) := by decide +kernel
theorem dX6_opens_38 : decode cX6_opens 38 = .ok (.getfield 29, 3) := by decide +kernel
theorem dX6_opens_41 : decode cX6_opens 41 = .ok (.aload_n 0, 1) := by decide +kernel
theorem dX6_opens_42 : decode cX6_opens 42 = .ok (.getfield 10, 3) := by decide +kernel
theorem dX6_opens_45 : decode cX6_opens 45 = .ok (.iload_n 1, 1) := by decide +kernel
theorem dX6_opens_46 : decode cX6_opens 46 = .ok (.iload_n 2, 1) := by decide +kernel
theorem dX6_opens_47 : decode cX6_opens 47 = .ok (.invokevirtual 148, 3) := by decide +kernel
theorem dX6_opens_50 : decode cX6_opens 50 = .ok (.ireturn, 1) := by decide +kernel
set_option maxRecDepth 20000 in
theorem ggX6_best_X3_pairThatOpensMost : GoodIn wsX6_best wsX3_pairThatOpensMost := goodIn_r _ [7, 8, 9, 10, 11, 12, 13, 14, 15, 16, 17, 18, 19, 20, 21, 22, 23, 24, 25, 26, 27, 28, 29, 30, 31, 32, 33, 34, 35, 36, 37, 38, 39, 40, 6, 41, 42, 43, 44, 45, 46, 47, 48, 49, 50, 51, 52, 53, 54, 55, 56, 57, 58, 59, 60, 61, 62, 63, 64, 65, 66, 67, 68, 69, 70, 71, 72, 73, 74, 75, 76, 77, 78, 79, 80, 81, 82, 83, 84, 85, 86, 87, 88, 89, 90, 91, 92, 93, 94, 95, 96, 97, 98, 99, 100, 101, 110, 111, 112, 113, 114, 115, 116, 117, 118, 119, 120, 121, 122, 123] (by decide +kernel) (by decide +kernel)
set_option maxRecDepth 20000 in
theorem gX6_best_X3_pairThatOpensMost : GoodIn wsX6_best (wsV RX6 151 RX3 yX3_pairThatOpensMost wsX3_pairThatOpensMost) := goodIn_app (goodIn_of _ (by decide +kernel)) ggX6_best_X3_pairThatOpensMost
theorem dX6_best_0 : decode cX6_best 0 = .ok (.aload_n 0, 1) := by decide +kernel
theorem dX6_best_1 : decode cX6_best 1 = .ok (.getfield 29, 3) := by decide +kernel
theorem dX6_best_4 : decode cX6_best 4 = .ok (.aload_n 0, 1) := by decide +kernel
theorem dX6_best_5 : decode cX6_best 5 = .ok (.getfield 10, 3) := by decide +kernel
theorem dX6_best_8 : decode cX6_best 8 = .ok (.invokevirtual 151, 3) := by decide +kernel
theorem dX6_best_11 : decode cX6_best 11 = .ok (.ireturn, 1) := by decide +kernel
set_option maxRecDepth 20000 in
theorem ggX6_fewest_X3_fewestAdded : GoodIn wsX6_fewest wsX3_fewestAdded := goodIn_r _ [7, 8, 9, 10, 6, 11, 12, 13, 14, 15, 16, 17, 18, 19, 20, 21, 22, 23, 24, 25, 26, 27, 28, 29, 30, 31, 32, 33, 34, 35, 36, 37, 38, 39, 40, 41, 42, 43, 44, 45, 46, 47, 48, 49, 50, 51, 52, 53, 54, 55, 56, 57, 58, 59, 60, 61, 62, 63, 64, 65, 66, 67, 68, 69, 70, 71, 72, 73, 74, 75, 76, 77, 78, 79, 80, 81, 82, 83, 84, 85, 86, 87, 88, 89, 90, 91, 92, 93, 94, 95, 96, 97, 98, 99, 100, 101, 102, 103, 104, 105, 123, 124, 125, 126, 127, 128, 129, 130, 131, 132, 133, 134, 135, 136] (by decide +kernel) (by decide +kernel)
set_option maxRecDepth 20000 in
theorem gX6_fewest_X3_fewestAdded : GoodIn wsX6_fewest (wsV RX6 154 RX3 yX3_fewestAdded wsX3_fewestAdded) := goodIn_app (goodIn_of _ (by decide +kernel)) ggX6_fewest_X3_fewestAdded
set_option maxRecDepth 20000 in
theorem ggX6_fewest_X3_firstAdded : GoodIn wsX6_fewest wsX3_firstAdded := goodIn_r _ [109, 8, 9, 10, 6, 11, 12, 13, 14, 15, 16, 17, 18, 19, 20, 21, 22, 23, 24, 25, 26, 27, 28, 29, 30, 31, 32, 33, 34, 35, 36, 37, 38, 39, 40, 41, 42, 43, 44, 45, 46, 47, 48, 49, 50, 51, 52, 53, 54, 55, 56, 57, 58, 59, 60, 61, 62, 63, 64, 65, 66, 67, 68, 69, 70, 71, 72, 73, 74, 75, 76, 77, 78, 79, 80, 81, 82, 83, 84, 85, 86, 87, 88, 89, 90, 91, 92, 93, 94, 95, 96, 97, 98, 99, 100, 101, 102, 103, 104, 105, 123, 124, 125, 126, 127, 128, 129, 130, 131, 132, 133, 134, 135, 136] (by decide +kernel) (by decide +kernel)
set_option maxRecDepth 20000 in
theorem gX6_fewest_X3_firstAdded : GoodIn wsX6_fewest (wsV RX6 157 RX3 yX3_firstAdded wsX3_firstAdded) := goodIn_app (goodIn_of _ (by decide +kernel)) ggX6_fewest_X3_firstAdded
set_option maxRecDepth 20000 in
theorem ggX6_fewest_X6_refuse : GoodIn wsX6_fewest wsX6_refuse := goodIn_r _ [113, 114, 115, 116, 117, 118, 119, 120, 121, 122] (by decide +kernel) (by decide +kernel)
set_option maxRecDepth 20000 in
theorem gX6_fewest_X6_refuse : GoodIn wsX6_fewest (wsV RX6 55 RX6 yX6_refuse wsX6_refuse) := goodIn_app (goodIn_of _ (by decide +kernel)) ggX6_fewest_X6_refuse
theorem dX6_fewest_0 : decode cX6_fewest 0 = .ok (.iload_n 1, 1) := by decide +kernel
theorem dX6_fewest_1 : decode cX6_fewest 1 = .ok (.lookupswitch 51 #[(0, 27), (1, 39)], 27) := by decide +kernel
theorem dX6_fewest_28 : decode cX6_fewest 28 = .ok (.aload_n 0, 1) := by decide +kernel
theorem dX6_fewest_29 : decode cX6_fewest 29 = .ok (.getfield 29, 3) := by decide +kernel
theorem dX6_fewest_32 : decode cX6_fewest 32 = .ok (.aload_n 0, 1) := by decide +kernel
theorem dX6_fewest_33 : decode cX6_fewest 33 = .ok (.getfield 10, 3) := by decide +kernel
theorem dX6_fewest_36 : decode cX6_fewest 36 = .ok (.invokevirtual 154, 3) := by decide +kernel
theorem dX6_fewest_39 : decode cX6_fewest 39 = .ok (.ireturn, 1) := by decide +kernel
theorem dX6_fewest_40 : decode cX6_fewest 40 = .ok (.aload_n 0, 1) := by decide +kernel
theorem dX6_fewest_41 : decode cX6_fewest 41 = .ok (.getfield 29, 3) := by decide +kernel
theorem dX6_fewest_44 : decode cX6_fewest 44 = .ok (.aload_n 0, 1) := by decide +kernel
theorem dX6_fewest_45 : decode cX6_fewest 45 = .ok (.getfield 10, 3) := by decide +kernel
theorem dX6_fewest_48 : decode cX6_fewest 48 = .ok (.invokevirtual 157, 3) := by decide +kernel
theorem dX6_fewest_51 : decode cX6_fewest 51 = .ok (.ireturn, 1) := by decide +kernel
theorem dX6_fewest_52 : decode cX6_fewest 52 = .ok (.aload_n 0, 1) := by decide +kernel
theorem dX6_fewest_53 : decode cX6_fewest 53 = .ok (.bipush (-2), 2) := by decide +kernel
theorem dX6_fewest_55 : decode cX6_fewest 55 = .ok (.invokevirtual 55, 3) := by decide +kernel
theorem dX6_fewest_58 : decode cX6_fewest 58 = .ok (.ireturn, 1) := by decide +kernel
set_option maxRecDepth 20000 in
theorem ggX6_wanted_X2_areTwo : GoodIn wsX6_wanted wsX2_areTwo := goodIn_r _ [7, 8, 9, 10, 6, 11, 12, 118, 119, 120, 121, 122, 123] (by decide +kernel) (by decide +kernel)
set_option maxRecDepth 20000 in
theorem gX6_wanted_X2_areTwo : GoodIn wsX6_wanted (wsV RX6 97 RX2 yX2_areTwo wsX2_areTwo) := goodIn_app (goodIn_of _ (by decide +kernel)) ggX6_wanted_X2_areTwo
set_option maxRecDepth 20000 in
theorem ggX6_wanted_X6_refuse : GoodIn wsX6_wanted wsX6_refuse := goodIn_r _ [17, 18, 110, 111, 112, 113, 114, 115, 116, 117] (by decide +kernel) (by decide +kernel)
set_option maxRecDepth 20000 in
theorem gX6_wanted_X6_refuse : GoodIn wsX6_wanted (wsV RX6 55 RX6 yX6_refuse wsX6_refuse) := goodIn_app (goodIn_of _ (by decide +kernel)) ggX6_wanted_X6_refuse
set_option maxRecDepth 20000 in
theorem ggX6_wanted_X5_leastDances : GoodIn wsX6_wanted wsX5_leastDances := goodIn_r _ [23, 24, 25, 26, 27, 28, 29, 6, 30, 31, 32, 16, 33, 34, 35, 36, 37, 12, 38, 39, 40, 41, 42, 43, 44, 22, 45, 46, 47, 48, 49, 50, 51, 52, 53, 54, 55, 56, 57, 58, 59, 60, 61, 62, 63, 64, 65, 66, 67, 68, 69, 70, 71, 72, 73, 74, 75, 76, 77, 78, 79, 80, 81, 82, 83, 84, 85, 86, 87, 88, 89, 90, 91, 92, 93, 4, 5, 7, 8, 9, 10, 11, 94, 95, 96, 97, 98, 99, 100, 101, 102, 103, 104, 105, 106, 107, 108, 109, 124, 125, 126, 118, 119, 120, 121, 122, 123] (by decide +kernel) (by decide +kernel)
set_option maxRecDepth 20000 in
theorem gX6_wanted_X5_leastDances : GoodIn wsX6_wanted (wsV RX6 160 RX5 yX5_leastDances wsX5_leastDances) := goodIn_app (goodIn_of _ (by decide +kernel)) ggX6_wanted_X5_leastDances
theorem dX6_wanted_0 : decode cX6_wanted 0 = .ok (.aload_n 0, 1) := by decide +kernel
theorem dX6_wanted_1 : decode cX6_wanted 1 = .ok (.getfield 10, 3) := by decide +kernel
theorem dX6_wanted_4 : decode cX6_wanted 4 = .ok (.iload_n 1, 1) := by decide +kernel
theorem dX6_wanted_5 : decode cX6_wanted 5 = .ok (.iload_n 2, 1) := by decide +kernel
theorem dX6_wanted_6 : decode cX6_wanted 6 = .ok (.invokevirtual 97, 3) := by decide +kernel
theorem dX6_wanted_9 : decode cX6_wanted 9 = .ok (.ifCond .ne 9, 3) := by decide +kernel
theorem dX6_wanted_12 : decode cX6_wanted 12 = .ok (.aload_n 0, 1) := by decide +kernel
theorem dX6_wanted_13 : decode cX6_wanted 13 = .ok (.iconst (-1), 1) := by decide +kernel
theorem dX6_wanted_14 : decode cX6_wanted 14 = .ok (.invokevirtual 55, 3) := by decide +kernel
theorem dX6_wanted_17 : decode cX6_wanted 17 = .ok (.ireturn, 1) := by decide +kernel
theorem dX6_wanted_18 : decode cX6_wanted 18 = .ok (.aload_n 0, 1) := by decide +kernel
theorem dX6_wanted_19 : decode cX6_wanted 19 = .ok (.getfield 36, 3) := by decide +kernel
theorem dX6_wanted_22 : decode cX6_wanted 22 = .ok (.aload_n 0, 1) := by decide +kernel
theorem dX6_wanted_23 : decode cX6_wanted 23 = .ok (.getfield 10, 3) := by decide +kernel
theorem dX6_wanted_26 : decode cX6_wanted 26 = .ok (.iload_n 1, 1) := by decide +kernel
theorem dX6_wanted_27 : decode cX6_wanted 27 = .ok (.iload_n 2, 1) := by decide +kernel
theorem dX6_wanted_28 : decode cX6_wanted 28 = .ok (.invokevirtual 160, 3) := by decide +kernel
theorem dX6_wanted_31 : decode cX6_wanted 31 = .ok (.ireturn, 1) := by decide +kernel
set_option maxRecDepth 20000 in
theorem ggX6_off_X2_areTwo : GoodIn wsX6_off wsX2_areTwo := goodIn_r _ [7, 8, 9, 10, 6, 11, 12, 131, 132, 133, 134, 135, 136] (by decide +kernel) (by decide +kernel)
set_option maxRecDepth 20000 in
theorem gX6_off_X2_areTwo : GoodIn wsX6_off (wsV RX6 97 RX2 yX2_areTwo wsX2_areTwo) := goodIn_app (goodIn_of _ (by decide +kernel)) ggX6_off_X2_areTwo
set_option maxRecDepth 20000 in
theorem ggX6_off_X6_refuse : GoodIn wsX6_off wsX6_refuse := goodIn_r _ [17, 18, 123, 124, 125, 126, 127, 128, 129, 130] (by decide +kernel) (by decide +kernel)
set_option maxRecDepth 20000 in
theorem gX6_off_X6_refuse : GoodIn wsX6_off (wsV RX6 55 RX6 yX6_refuse wsX6_refuse) := goodIn_app (goodIn_of _ (by decide +kernel)) ggX6_off_X6_refuse
set_option maxRecDepth 20000 in
theorem ggX6_off_X3_fewestWithout : GoodIn wsX6_off wsX3_fewestWithout := goodIn_r _ [23, 24, 25, 26, 22, 27, 28, 29, 30, 31, 32, 33, 34, 35, 36, 37, 38, 39, 40, 41, 42, 43, 44, 45, 46, 47, 48, 49, 50, 51, 52, 6, 53, 54, 55, 56, 57, 58, 59, 60, 61, 62, 63, 64, 65, 66, 67, 68, 69, 16, 70, 71, 72, 73, 74, 75, 76, 77, 78, 79, 80, 81, 82, 83, 84, 85, 86, 87, 88, 89, 90, 91, 92, 93, 94, 95, 96, 97, 98, 99, 100, 101, 102, 103, 104, 105, 4, 5, 7, 8, 9, 10, 11, 12, 106, 107, 108, 109, 110, 111, 112, 113, 114, 115, 116, 117, 118, 119, 120, 121, 122, 137, 131, 132, 133, 134, 135, 136, 138, 139, 140, 141, 142, 143, 144] (by decide +kernel) (by decide +kernel)
set_option maxRecDepth 20000 in
theorem gX6_off_X3_fewestWithout : GoodIn wsX6_off (wsV RX6 163 RX3 yX3_fewestWithout wsX3_fewestWithout) := goodIn_app (goodIn_of _ (by decide +kernel)) ggX6_off_X3_fewestWithout
theorem dX6_off_0 : decode cX6_off 0 = .ok (.aload_n 0, 1) := by decide +kernel
theorem dX6_off_1 : decode cX6_off 1 = .ok (.getfield 10, 3) := by decide +kernel
theorem dX6_off_4 : decode cX6_off 4 = .ok (.iload_n 1, 1) := by decide +kernel
theorem dX6_off_5 : decode cX6_off 5 = .ok (.iload_n 2, 1) := by decide +kernel
theorem dX6_off_6 : decode cX6_off 6 = .ok (.invokevirtual 97, 3) := by decide +kernel
theorem dX6_off_9 : decode cX6_off 9 = .ok (.ifCond .ne 9, 3) := by decide +kernel
theorem dX6_off_12 : decode cX6_off 12 = .ok (.aload_n 0, 1) := by decide +kernel
theorem dX6_off_13 : decode cX6_off 13 = .ok (.iconst (-1), 1) := by decide +kernel
theorem dX6_off_14 : decode cX6_off 14 = .ok (.invokevirtual 55, 3) := by decide +kernel
theorem dX6_off_17 : decode cX6_off 17 = .ok (.ireturn, 1) := by decide +kernel
theorem dX6_off_18 : decode cX6_off 18 = .ok (.aload_n 0, 1) := by decide +kernel
theorem dX6_off_19 : decode cX6_off 19 = .ok (.getfield 29, 3) := by decide +kernel
theorem dX6_off_22 : decode cX6_off 22 = .ok (.aload_n 0, 1) := by decide +kernel
theorem dX6_off_23 : decode cX6_off 23 = .ok (.getfield 10, 3) := by decide +kernel
theorem dX6_off_26 : decode cX6_off 26 = .ok (.iload_n 1, 1) := by decide +kernel
theorem dX6_off_27 : decode cX6_off 27 = .ok (.iload_n 2, 1) := by decide +kernel
theorem dX6_off_28 : decode cX6_off 28 = .ok (.invokevirtual 163, 3) := by decide +kernel
theorem dX6_off_31 : decode cX6_off 31 = .ok (.ireturn, 1) := by decide +kernel
set_option maxRecDepth 20000 in
theorem ggX6_worth_X2_isThere : GoodIn wsX6_worth wsX2_isThere := goodIn_r _ [7, 8, 91, 92, 93, 94, 95, 96] (by decide +kernel) (by decide +kernel)
set_option maxRecDepth 20000 in
theorem gX6_worth_X2_isThere : GoodIn wsX6_worth (wsV RX6 70 RX2 yX2_isThere wsX2_isThere) := goodIn_app (goodIn_of _ (by decide +kernel)) ggX6_worth_X2_isThere
set_option maxRecDepth 20000 in
theorem ggX6_worth_X6_refuse : GoodIn wsX6_worth wsX6_refuse := goodIn_r _ [13, 14, 83, 84, 85, 86, 87, 88, 89, 90] (by decide +kernel) (by decide +kernel)
set_option maxRecDepth 20000 in
theorem gX6_worth_X6_refuse : GoodIn wsX6_worth (wsV RX6 55 RX6 yX6_refuse wsX6_refuse) := goodIn_app (goodIn_of _ (by decide +kernel)) ggX6_worth_X6_refuse
set_option maxRecDepth 20000 in
theorem ggX6_worth_X3_lostWithoutBringer : GoodIn wsX6_worth wsX3_lostWithoutBringer := goodIn_r _ [19, 20, 21, 22, 23, 24, 18, 25, 26, 27, 28, 29, 30, 31, 32, 33, 34, 35, 36, 37, 38, 39, 40, 41, 42, 43, 44, 45, 6, 46, 47, 48, 49, 50, 51, 52, 53, 54, 55, 56, 57, 58, 59, 60, 61, 62, 12, 63, 64, 65, 66, 67, 68, 69, 70, 71, 72, 73, 74, 75, 76, 77, 78, 79, 80, 81, 82, 97, 98, 99, 100, 101, 102, 103, 104, 91, 92, 93, 94, 95, 96] (by decide +kernel) (by decide +kernel)
set_option maxRecDepth 20000 in
theorem gX6_worth_X3_lostWithoutBringer : GoodIn wsX6_worth (wsV RX6 166 RX3 yX3_lostWithoutBringer wsX3_lostWithoutBringer) := goodIn_app (goodIn_of _ (by decide +kernel)) ggX6_worth_X3_lostWithoutBringer
theorem dX6_worth_0 : decode cX6_worth 0 = .ok (.aload_n 0, 1) := by decide +kernel
theorem dX6_worth_1 : decode cX6_worth 1 = .ok (.getfield 10, 3) := by decide +kernel
theorem dX6_worth_4 : decode cX6_worth 4 = .ok (.iload_n 1, 1) := by decide +kernel
theorem dX6_worth_5 : decode cX6_worth 5 = .ok (.invokevirtual 70, 3) := by decide +kernel
theorem dX6_worth_8 : decode cX6_worth 8 = .ok (.ifCond .ne 9, 3) := by decide +kernel
theorem dX6_worth_11 : decode cX6_worth 11 = .ok (.aload_n 0, 1) := by decide +kernel
theorem dX6_worth_12 : decode cX6_worth 12 = .ok (.iconst (-1), 1) := by decide +kernel
theorem dX6_worth_13 : decode cX6_worth 13 = .ok (.invokevirtual 55, 3) := by decide +kernel
theorem dX6_worth_16 : decode cX6_worth 16 = .ok (.ireturn, 1) := by decide +kernel
theorem dX6_worth_17 : decode cX6_worth 17 = .ok (.aload_n 0, 1) := by decide +kernel
theorem dX6_worth_18 : decode cX6_worth 18 = .ok (.getfield 29, 3) := by decide +kernel
theorem dX6_worth_21 : decode cX6_worth 21 = .ok (.aload_n 0, 1) := by decide +kernel
theorem dX6_worth_22 : decode cX6_worth 22 = .ok (.getfield 10, 3) := by decide +kernel
theorem dX6_worth_25 : decode cX6_worth 25 = .ok (.iload_n 1, 1) := by decide +kernel
theorem dX6_worth_26 : decode cX6_worth 26 = .ok (.invokevirtual 166, 3) := by decide +kernel
theorem dX6_worth_29 : decode cX6_worth 29 = .ok (.ireturn, 1) := by decide +kernel
set_option maxRecDepth 20000 in
theorem ggX6_byLaw_X6_isLaw : GoodIn wsX6_byLaw wsX6_isLaw := goodIn_r _ [6] (by decide +kernel) (by decide +kernel)
set_option maxRecDepth 20000 in
theorem gX6_byLaw_X6_isLaw : GoodIn wsX6_byLaw (va_wsS RX6 91 yX6_isLaw wsX6_isLaw) := goodIn_app (goodIn_of _ (by decide +kernel)) ggX6_byLaw_X6_isLaw
set_option maxRecDepth 20000 in
theorem ggX6_byLaw_X6_refuse : GoodIn wsX6_byLaw wsX6_refuse := goodIn_r _ [10, 11, 77, 78, 79, 80, 81, 82, 83, 84] (by decide +kernel) (by decide +kernel)
set_option maxRecDepth 20000 in
theorem gX6_byLaw_X6_refuse : GoodIn wsX6_byLaw (wsV RX6 55 RX6 yX6_refuse wsX6_refuse) := goodIn_app (goodIn_of _ (by decide +kernel)) ggX6_byLaw_X6_refuse
set_option maxRecDepth 20000 in
theorem ggX6_byLaw_X3_pairsInTheEnd : GoodIn wsX6_byLaw wsX3_pairsInTheEnd := goodIn_r _ [16, 17, 18, 19, 20, 21, 22, 23, 24, 25, 26, 27, 28, 29, 30, 31, 32, 33, 34, 35, 36, 37, 38, 39, 40, 41, 42, 43, 44, 45, 46, 47, 48, 49, 50, 51, 52, 53, 54, 55, 56, 5, 57, 58, 59, 60, 61, 62, 63, 64, 65, 66, 67, 68, 69, 70, 71, 72, 73, 74, 75, 76, 85, 86, 87, 88, 89, 90, 91, 92, 93, 94, 95, 96, 97, 98] (by decide +kernel) (by decide +kernel)
set_option maxRecDepth 20000 in
theorem gX6_byLaw_X3_pairsInTheEnd : GoodIn wsX6_byLaw (wsV RX6 138 RX3 yX3_pairsInTheEnd wsX3_pairsInTheEnd) := goodIn_app (goodIn_of _ (by decide +kernel)) ggX6_byLaw_X3_pairsInTheEnd
theorem dX6_byLaw_0 : decode cX6_byLaw 0 = .ok (.iload_n 1, 1) := by decide +kernel
theorem dX6_byLaw_1 : decode cX6_byLaw 1 = .ok (.invokestatic 91, 3) := by decide +kernel
theorem dX6_byLaw_4 : decode cX6_byLaw 4 = .ok (.ifCond .ne 10, 3) := by decide +kernel
theorem dX6_byLaw_7 : decode cX6_byLaw 7 = .ok (.aload_n 0, 1) := by decide +kernel
theorem dX6_byLaw_8 : decode cX6_byLaw 8 = .ok (.bipush (-2), 2) := by decide +kernel
theorem dX6_byLaw_10 : decode cX6_byLaw 10 = .ok (.invokevirtual 55, 3) := by decide +kernel
theorem dX6_byLaw_13 : decode cX6_byLaw 13 = .ok (.ireturn, 1) := by decide +kernel
theorem dX6_byLaw_14 : decode cX6_byLaw 14 = .ok (.aload_n 0, 1) := by decide +kernel
theorem dX6_byLaw_15 : decode cX6_byLaw 15 = .ok (.getfield 29, 3) := by decide +kernel
theorem dX6_byLaw_18 : decode cX6_byLaw 18 = .ok (.aload_n 0, 1) := by decide +kernel
theorem dX6_byLaw_19 : decode cX6_byLaw 19 = .ok (.getfield 10, 3) := by decide +kernel
theorem dX6_byLaw_22 : decode cX6_byLaw 22 = .ok (.iload_n 1, 1) := by decide +kernel
theorem dX6_byLaw_23 : decode cX6_byLaw 23 = .ok (.invokevirtual 138, 3) := by decide +kernel
theorem dX6_byLaw_26 : decode cX6_byLaw 26 = .ok (.ireturn, 1) := by decide +kernel
set_option maxRecDepth 20000 in
theorem ggX6_row_X6_refuse : GoodIn wsX6_row wsX6_refuse := goodIn_r _ [7, 8, 16, 17, 18, 19, 20, 21, 22, 23] (by decide +kernel) (by decide +kernel)
set_option maxRecDepth 20000 in
theorem gX6_row_X6_refuse : GoodIn wsX6_row (wsV RX6 55 RX6 yX6_refuse wsX6_refuse) := goodIn_app (goodIn_of _ (by decide +kernel)) ggX6_row_X6_refuse
set_option maxRecDepth 20000 in
theorem ggX6_row_X1_append : GoodIn wsX6_row wsX1_append := goodIn_r _ [13, 14, 15, 24, 25, 26] (by decide +kernel) (by decide +kernel)
set_option maxRecDepth 20000 in
theorem gX6_row_X1_append : GoodIn wsX6_row (wsV RX6 172 RX1 yX1_append wsX1_append) := goodIn_app (goodIn_of _ (by decide +kernel)) ggX6_row_X1_append
theorem dX6_row_0 : decode cX6_row 0 = .ok (.iload_n 1, 1) := by decide +kernel
theorem dX6_row_1 : decode cX6_row 1 = .ok (.ifCond .ge 10, 3) := by decide +kernel
theorem dX6_row_4 : decode cX6_row 4 = .ok (.aload_n 0, 1) := by decide +kernel
theorem dX6_row_5 : decode cX6_row 5 = .ok (.bipush (-4), 2) := by decide +kernel
theorem dX6_row_7 : decode cX6_row 7 = .ok (.invokevirtual 55, 3) := by decide +kernel
theorem dX6_row_10 : decode cX6_row 10 = .ok (.ireturn, 1) := by decide +kernel
theorem dX6_row_11 : decode cX6_row 11 = .ok (.iload_n 1, 1) := by decide +kernel
theorem dX6_row_12 : decode cX6_row 12 = .ok (.bipush 99, 2) := by decide +kernel
theorem dX6_row_14 : decode cX6_row 14 = .ok (.if_icmp .gt 15, 3) := by decide +kernel
theorem dX6_row_17 : decode cX6_row 17 = .ok (.aload_n 0, 1) := by decide +kernel
theorem dX6_row_18 : decode cX6_row 18 = .ok (.getfield 43, 3) := by decide +kernel
theorem dX6_row_21 : decode cX6_row 21 = .ok (.getfield 169, 3) := by decide +kernel
theorem dX6_row_24 : decode cX6_row 24 = .ok (.bipush 6, 2) := by decide +kernel
theorem dX6_row_26 : decode cX6_row 26 = .ok (.if_icmp .lt 10, 3) := by decide +kernel
theorem dX6_row_29 : decode cX6_row 29 = .ok (.aload_n 0, 1) := by decide +kernel
theorem dX6_row_30 : decode cX6_row 30 = .ok (.bipush (-6), 2) := by decide +kernel
theorem dX6_row_32 : decode cX6_row 32 = .ok (.invokevirtual 55, 3) := by decide +kernel
theorem dX6_row_35 : decode cX6_row 35 = .ok (.ireturn, 1) := by decide +kernel
theorem dX6_row_36 : decode cX6_row 36 = .ok (.aload_n 0, 1) := by decide +kernel
theorem dX6_row_37 : decode cX6_row 37 = .ok (.getfield 43, 3) := by decide +kernel
theorem dX6_row_40 : decode cX6_row 40 = .ok (.iload_n 1, 1) := by decide +kernel
theorem dX6_row_41 : decode cX6_row 41 = .ok (.invokevirtual 172, 3) := by decide +kernel
theorem dX6_row_44 : decode cX6_row 44 = .ok (.ireturn, 1) := by decide +kernel
set_option maxRecDepth 20000 in
theorem ggX6_judge_X1_firstWrong : GoodIn wsX6_judge wsX1_firstWrong := goodIn_r _ [7, 8, 9, 10, 11, 12, 13, 14, 15, 16, 17, 18, 19, 20, 21, 22, 23, 24, 25, 26, 27, 28, 29, 30, 31, 32, 33, 34, 35, 36, 37, 38, 39, 40, 41, 42, 43, 44, 45, 46, 47, 48, 49, 50, 51, 52, 53, 54, 55, 56, 57, 58, 59, 60, 61, 62, 63, 64, 65, 66, 67, 68, 69, 70, 71, 72, 73, 74, 75, 76, 77, 78, 79, 80, 81, 90, 91, 92, 93, 94, 95, 96, 97, 98] (by decide +kernel) (by decide +kernel)
set_option maxRecDepth 20000 in
theorem gX6_judge_X1_firstWrong : GoodIn wsX6_judge (wsV RX6 173 RX1 yX1_firstWrong wsX1_firstWrong) := goodIn_app (goodIn_of _ (by decide +kernel)) ggX6_judge_X1_firstWrong
theorem dX6_judge_0 : decode cX6_judge 0 = .ok (.aload_n 0, 1) := by decide +kernel
theorem dX6_judge_1 : decode cX6_judge 1 = .ok (.getfield 43, 3) := by decide +kernel
theorem dX6_judge_4 : decode cX6_judge 4 = .ok (.aload_n 0, 1) := by decide +kernel
theorem dX6_judge_5 : decode cX6_judge 5 = .ok (.getfield 10, 3) := by decide +kernel
theorem dX6_judge_8 : decode cX6_judge 8 = .ok (.invokevirtual 173, 3) := by decide +kernel
theorem dX6_judge_11 : decode cX6_judge 11 = .ok (.ireturn, 1) := by decide +kernel
set_option maxRecDepth 20000 in
theorem ggX6_load_X6_refuse : GoodIn wsX6_load wsX6_refuse := goodIn_r _ [8, 9, 98, 99, 100, 101, 102, 103, 104, 105] (by decide +kernel) (by decide +kernel)
set_option maxRecDepth 20000 in
theorem gX6_load_X6_refuse : GoodIn wsX6_load (wsV RX6 55 RX6 yX6_refuse wsX6_refuse) := goodIn_app (goodIn_of _ (by decide +kernel)) ggX6_load_X6_refuse
set_option maxRecDepth 20000 in
theorem ggX6_load_X1_leastLoad : GoodIn wsX6_load wsX1_leastLoad := goodIn_r _ [14, 15, 16, 17, 18, 19, 20, 21, 22, 23, 24, 25, 26, 27, 28, 29, 30, 13, 31, 32, 33, 34, 35, 36, 37, 38, 39, 40, 41, 42, 43, 44, 45, 46, 47, 48, 49, 50, 51, 52, 53, 7, 54, 55, 56, 57, 58, 59, 60, 61, 62, 63, 64, 65, 66, 67, 68, 69, 70, 71, 72, 73, 74, 75, 76, 77, 78, 79, 80, 81, 82, 83, 84, 85, 86, 87, 88, 89, 90, 91, 92, 93, 94, 95, 96, 97, 112, 113, 114, 106, 107, 108, 109, 110, 111] (by decide +kernel) (by decide +kernel)
set_option maxRecDepth 20000 in
theorem gX6_load_X1_leastLoad : GoodIn wsX6_load (wsV RX6 176 RX1 yX1_leastLoad wsX1_leastLoad) := goodIn_app (goodIn_of _ (by decide +kernel)) ggX6_load_X1_leastLoad
theorem dX6_load_0 : decode cX6_load 0 = .ok (.aload_n 0, 1) := by decide +kernel
theorem dX6_load_1 : decode cX6_load 1 = .ok (.getfield 10, 3) := by decide +kernel
theorem dX6_load_4 : decode cX6_load 4 = .ok (.getfield 94, 3) := by decide +kernel
theorem dX6_load_7 : decode cX6_load 7 = .ok (.iconst 1, 1) := by decide +kernel
theorem dX6_load_8 : decode cX6_load 8 = .ok (.if_icmp .ne 10, 3) := by decide +kernel
theorem dX6_load_11 : decode cX6_load 11 = .ok (.aload_n 0, 1) := by decide +kernel
theorem dX6_load_12 : decode cX6_load 12 = .ok (.bipush (-3), 2) := by decide +kernel
theorem dX6_load_14 : decode cX6_load 14 = .ok (.invokevirtual 55, 3) := by decide +kernel
theorem dX6_load_17 : decode cX6_load 17 = .ok (.ireturn, 1) := by decide +kernel
theorem dX6_load_18 : decode cX6_load 18 = .ok (.aload_n 0, 1) := by decide +kernel
theorem dX6_load_19 : decode cX6_load 19 = .ok (.getfield 43, 3) := by decide +kernel
theorem dX6_load_22 : decode cX6_load 22 = .ok (.aload_n 0, 1) := by decide +kernel
theorem dX6_load_23 : decode cX6_load 23 = .ok (.getfield 10, 3) := by decide +kernel
theorem dX6_load_26 : decode cX6_load 26 = .ok (.invokevirtual 176, 3) := by decide +kernel
theorem dX6_load_29 : decode cX6_load 29 = .ok (.ireturn, 1) := by decide +kernel
set_option maxRecDepth 20000 in
theorem ggX6_cards_X6_refuse : GoodIn wsX6_cards wsX6_refuse := goodIn_r _ [8, 9, 92, 93, 94, 95, 96, 97, 98, 99] (by decide +kernel) (by decide +kernel)
set_option maxRecDepth 20000 in
theorem gX6_cards_X6_refuse : GoodIn wsX6_cards (wsV RX6 55 RX6 yX6_refuse wsX6_refuse) := goodIn_app (goodIn_of _ (by decide +kernel)) ggX6_cards_X6_refuse
set_option maxRecDepth 20000 in
theorem ggX6_cards_X1_goodOrders : GoodIn wsX6_cards wsX1_goodOrders := goodIn_r _ [14, 15, 16, 17, 18, 19, 20, 21, 22, 23, 24, 25, 26, 27, 28, 29, 13, 30, 31, 32, 33, 7, 34, 35, 36, 37, 38, 39, 40, 41, 42, 43, 44, 45, 46, 47, 48, 49, 50, 51, 52, 53, 54, 55, 56, 57, 58, 59, 60, 61, 62, 63, 64, 65, 66, 67, 68, 69, 70, 71, 72, 73, 74, 75, 76, 77, 78, 79, 80, 81, 82, 83, 84, 85, 86, 87, 88, 89, 90, 91, 100, 101, 102, 103, 104, 105, 106, 107, 108] (by decide +kernel) (by decide +kernel)
set_option maxRecDepth 20000 in
theorem gX6_cards_X1_goodOrders : GoodIn wsX6_cards (wsV RX6 179 RX1 yX1_goodOrders wsX1_goodOrders) := goodIn_app (goodIn_of _ (by decide +kernel)) ggX6_cards_X1_goodOrders
theorem dX6_cards_0 : decode cX6_cards 0 = .ok (.aload_n 0, 1) := by decide +kernel
theorem dX6_cards_1 : decode cX6_cards 1 = .ok (.getfield 43, 3) := by decide +kernel
theorem dX6_cards_4 : decode cX6_cards 4 = .ok (.getfield 169, 3) := by decide +kernel
theorem dX6_cards_7 : decode cX6_cards 7 = .ok (.iconst 5, 1) := by decide +kernel
theorem dX6_cards_8 : decode cX6_cards 8 = .ok (.if_icmp .le 10, 3) := by decide +kernel
theorem dX6_cards_11 : decode cX6_cards 11 = .ok (.aload_n 0, 1) := by decide +kernel
theorem dX6_cards_12 : decode cX6_cards 12 = .ok (.bipush (-6), 2) := by decide +kernel
theorem dX6_cards_14 : decode cX6_cards 14 = .ok (.invokevirtual 55, 3) := by decide +kernel
theorem dX6_cards_17 : decode cX6_cards 17 = .ok (.ireturn, 1) := by decide +kernel
theorem dX6_cards_18 : decode cX6_cards 18 = .ok (.aload_n 0, 1) := by decide +kernel
theorem dX6_cards_19 : decode cX6_cards 19 = .ok (.getfield 43, 3) := by decide +kernel
theorem dX6_cards_22 : decode cX6_cards 22 = .ok (.aload_n 0, 1) := by decide +kernel
theorem dX6_cards_23 : decode cX6_cards 23 = .ok (.getfield 10, 3) := by decide +kernel
theorem dX6_cards_26 : decode cX6_cards 26 = .ok (.invokevirtual 179, 3) := by decide +kernel
theorem dX6_cards_29 : decode cX6_cards 29 = .ok (.ireturn, 1) := by decide +kernel
set_option maxRecDepth 20000 in
theorem ggX6_clear_X1_empty : GoodIn wsX6_clear wsX1_empty := goodIn_r _ [6, 7, 16, 17, 18] (by decide +kernel) (by decide +kernel)
set_option maxRecDepth 20000 in
theorem gX6_clear_X1_empty : GoodIn wsX6_clear (wsV RX6 182 RX1 yX1_empty wsX1_empty) := goodIn_app (goodIn_of _ (by decide +kernel)) ggX6_clear_X1_empty
theorem dX6_clear_0 : decode cX6_clear 0 = .ok (.aload_n 0, 1) := by decide +kernel
theorem dX6_clear_1 : decode cX6_clear 1 = .ok (.getfield 43, 3) := by decide +kernel
theorem dX6_clear_4 : decode cX6_clear 4 = .ok (.invokevirtual 182, 3) := by decide +kernel
theorem dX6_clear_7 : decode cX6_clear 7 = .ok (.ireturn, 1) := by decide +kernel
set_option maxRecDepth 20000 in
theorem ggX6_seeds_X6_refuse : GoodIn wsX6_seeds wsX6_refuse := goodIn_r _ [8, 9, 100, 101, 102, 103, 104, 105, 106, 107] (by decide +kernel) (by decide +kernel)
set_option maxRecDepth 20000 in
theorem gX6_seeds_X6_refuse : GoodIn wsX6_seeds (wsV RX6 55 RX6 yX6_refuse wsX6_refuse) := goodIn_app (goodIn_of _ (by decide +kernel)) ggX6_seeds_X6_refuse
set_option maxRecDepth 20000 in
theorem ggX6_seeds_X1_pairsBySeed : GoodIn wsX6_seeds wsX1_pairsBySeed := goodIn_r _ [14, 15, 16, 17, 18, 19, 20, 21, 22, 23, 24, 25, 26, 27, 28, 29, 13, 30, 31, 32, 33, 34, 35, 36, 37, 38, 39, 40, 41, 42, 43, 44, 45, 46, 47, 48, 49, 50, 51, 52, 53, 54, 55, 56, 57, 7, 58, 59, 60, 61, 62, 63, 64, 65, 66, 67, 68, 69, 70, 71, 72, 73, 74, 75, 76, 77, 78, 79, 80, 81, 82, 83, 84, 85, 86, 87, 88, 89, 90, 91, 92, 93, 94, 95, 96, 97, 98, 99, 114, 115, 116, 108, 109, 110, 111, 112, 113] (by decide +kernel) (by decide +kernel)
set_option maxRecDepth 20000 in
theorem gX6_seeds_X1_pairsBySeed : GoodIn wsX6_seeds (wsV RX6 186 RX1 yX1_pairsBySeed wsX1_pairsBySeed) := goodIn_app (goodIn_of _ (by decide +kernel)) ggX6_seeds_X1_pairsBySeed
theorem dX6_seeds_0 : decode cX6_seeds 0 = .ok (.iload_n 1, 1) := by decide +kernel
theorem dX6_seeds_1 : decode cX6_seeds 1 = .ok (.iconst 1, 1) := by decide +kernel
theorem dX6_seeds_2 : decode cX6_seeds 2 = .ok (.if_icmp .ge 10, 3) := by decide +kernel
theorem dX6_seeds_5 : decode cX6_seeds 5 = .ok (.aload_n 0, 1) := by decide +kernel
theorem dX6_seeds_6 : decode cX6_seeds 6 = .ok (.bipush (-4), 2) := by decide +kernel
theorem dX6_seeds_8 : decode cX6_seeds 8 = .ok (.invokevirtual 55, 3) := by decide +kernel
theorem dX6_seeds_11 : decode cX6_seeds 11 = .ok (.ireturn, 1) := by decide +kernel
theorem dX6_seeds_12 : decode cX6_seeds 12 = .ok (.iload_n 1, 1) := by decide +kernel
theorem dX6_seeds_13 : decode cX6_seeds 13 = .ok (.bipush 40, 2) := by decide +kernel
theorem dX6_seeds_15 : decode cX6_seeds 15 = .ok (.if_icmp .le 10, 3) := by decide +kernel
theorem dX6_seeds_18 : decode cX6_seeds 18 = .ok (.aload_n 0, 1) := by decide +kernel
theorem dX6_seeds_19 : decode cX6_seeds 19 = .ok (.bipush (-6), 2) := by decide +kernel
theorem dX6_seeds_21 : decode cX6_seeds 21 = .ok (.invokevirtual 55, 3) := by decide +kernel
theorem dX6_seeds_24 : decode cX6_seeds 24 = .ok (.ireturn, 1) := by decide +kernel
theorem dX6_seeds_25 : decode cX6_seeds 25 = .ok (.aload_n 0, 1) := by decide +kernel
theorem dX6_seeds_26 : decode cX6_seeds 26 = .ok (.getfield 10, 3) := by decide +kernel
theorem dX6_seeds_29 : decode cX6_seeds 29 = .ok (.getfield 185, 3) := by decide +kernel
theorem dX6_seeds_32 : decode cX6_seeds 32 = .ok (.ifCond .ne 10, 3) := by decide +kernel
theorem dX6_seeds_35 : decode cX6_seeds 35 = .ok (.aload_n 0, 1) := by decide +kernel
theorem dX6_seeds_36 : decode cX6_seeds 36 = .ok (.bipush (-3), 2) := by decide +kernel
theorem dX6_seeds_38 : decode cX6_seeds 38 = .ok (.invokevirtual 55, 3) := by decide +kernel
theorem dX6_seeds_41 : decode cX6_seeds 41 = .ok (.ireturn, 1) := by decide +kernel
theorem dX6_seeds_42 : decode cX6_seeds 42 = .ok (.aload_n 0, 1) := by decide +kernel
theorem dX6_seeds_43 : decode cX6_seeds 43 = .ok (.getfield 43, 3) := by decide +kernel
theorem dX6_seeds_46 : decode cX6_seeds 46 = .ok (.aload_n 0, 1) := by decide +kernel
theorem dX6_seeds_47 : decode cX6_seeds 47 = .ok (.getfield 10, 3) := by decide +kernel
theorem dX6_seeds_50 : decode cX6_seeds 50 = .ok (.iload_n 1, 1) := by decide +kernel
theorem dX6_seeds_51 : decode cX6_seeds 51 = .ok (.iload_n 2, 1) := by decide +kernel
theorem dX6_seeds_52 : decode cX6_seeds 52 = .ok (.invokevirtual 186, 3) := by decide +kernel
theorem dX6_seeds_55 : decode cX6_seeds 55 = .ok (.ireturn, 1) := by decide +kernel
set_option maxRecDepth 20000 in
theorem ggX6_image_X2_copyFrom : GoodIn wsX6_image wsX2_copyFrom := goodIn_r _ [8, 9, 10, 11, 12, 13, 14, 34, 35, 36, 37, 38, 39] (by decide +kernel) (by decide +kernel)
set_option maxRecDepth 20000 in
theorem gX6_image_X2_copyFrom : GoodIn wsX6_image (wsV RX6 189 RX2 yX2_copyFrom wsX2_copyFrom) := goodIn_app (goodIn_of _ (by decide +kernel)) ggX6_image_X2_copyFrom
set_option maxRecDepth 20000 in
theorem ggX6_image_X2_pairsDanced : GoodIn wsX6_image wsX2_pairsDanced := goodIn_r _ [18, 9, 14, 19, 20, 21, 22, 23, 24, 25, 34, 35, 36, 37, 38, 39] (by decide +kernel) (by decide +kernel)
set_option maxRecDepth 20000 in
theorem gX6_image_X2_pairsDanced : GoodIn wsX6_image (wsV RX6 123 RX2 yX2_pairsDanced wsX2_pairsDanced) := goodIn_app (goodIn_of _ (by decide +kernel)) ggX6_image_X2_pairsDanced
theorem dX6_image_0 : decode cX6_image 0 = .ok (.aload_n 0, 1) := by decide +kernel
theorem dX6_image_1 : decode cX6_image 1 = .ok (.getfield 16, 3) := by decide +kernel
theorem dX6_image_4 : decode cX6_image 4 = .ok (.aload_n 0, 1) := by decide +kernel
theorem dX6_image_5 : decode cX6_image 5 = .ok (.getfield 10, 3) := by decide +kernel
theorem dX6_image_8 : decode cX6_image 8 = .ok (.invokevirtual 189, 3) := by decide +kernel
theorem dX6_image_11 : decode cX6_image 11 = .ok (.aload_n 0, 1) := by decide +kernel
theorem dX6_image_12 : decode cX6_image 12 = .ok (.iconst 1, 1) := by decide +kernel
theorem dX6_image_13 : decode cX6_image 13 = .ok (.putfield 51, 3) := by decide +kernel
theorem dX6_image_16 : decode cX6_image 16 = .ok (.aload_n 0, 1) := by decide +kernel
theorem dX6_image_17 : decode cX6_image 17 = .ok (.getfield 10, 3) := by decide +kernel
theorem dX6_image_20 : decode cX6_image 20 = .ok (.invokevirtual 123, 3) := by decide +kernel
theorem dX6_image_23 : decode cX6_image 23 = .ok (.ireturn, 1) := by decide +kernel
set_option maxRecDepth 20000 in
theorem ggX6_restore_X6_refuse : GoodIn wsX6_restore wsX6_refuse := goodIn_r _ [8, 9, 32, 33, 34, 35, 36, 37, 38, 39] (by decide +kernel) (by decide +kernel)
set_option maxRecDepth 20000 in
theorem gX6_restore_X6_refuse : GoodIn wsX6_restore (wsV RX6 55 RX6 yX6_refuse wsX6_refuse) := goodIn_app (goodIn_of _ (by decide +kernel)) ggX6_restore_X6_refuse
set_option maxRecDepth 20000 in
theorem ggX6_restore_X2_copyFrom : GoodIn wsX6_restore wsX2_copyFrom := goodIn_r _ [14, 15, 16, 17, 18, 19, 20, 40, 41, 42, 43, 44, 45] (by decide +kernel) (by decide +kernel)
set_option maxRecDepth 20000 in
theorem gX6_restore_X2_copyFrom : GoodIn wsX6_restore (wsV RX6 189 RX2 yX2_copyFrom wsX2_copyFrom) := goodIn_app (goodIn_of _ (by decide +kernel)) ggX6_restore_X2_copyFrom
set_option maxRecDepth 20000 in
theorem ggX6_restore_X2_pairsDanced : GoodIn wsX6_restore wsX2_pairsDanced := goodIn_r _ [24, 15, 20, 25, 26, 27, 28, 29, 30, 31, 40, 41, 42, 43, 44, 45] (by decide +kernel) (by decide +kernel)
set_option maxRecDepth 20000 in
theorem gX6_restore_X2_pairsDanced : GoodIn wsX6_restore (wsV RX6 123 RX2 yX2_pairsDanced wsX2_pairsDanced) := goodIn_app (goodIn_of _ (by decide +kernel)) ggX6_restore_X2_pairsDanced
theorem dX6_restore_0 : decode cX6_restore 0 = .ok (.aload_n 0, 1) := by decide +kernel
theorem dX6_restore_1 : decode cX6_restore 1 = .ok (.getfield 51, 3) := by decide +kernel
theorem dX6_restore_4 : decode cX6_restore 4 = .ok (.ifCond .ne 10, 3) := by decide +kernel
theorem dX6_restore_7 : decode cX6_restore 7 = .ok (.aload_n 0, 1) := by decide +kernel
theorem dX6_restore_8 : decode cX6_restore 8 = .ok (.bipush (-3), 2) := by decide +kernel
theorem dX6_restore_10 : decode cX6_restore 10 = .ok (.invokevirtual 55, 3) := by decide +kernel
theorem dX6_restore_13 : decode cX6_restore 13 = .ok (.ireturn, 1) := by decide +kernel
theorem dX6_restore_14 : decode cX6_restore 14 = .ok (.aload_n 0, 1) := by decide +kernel
theorem dX6_restore_15 : decode cX6_restore 15 = .ok (.getfield 10, 3) := by decide +kernel
theorem dX6_restore_18 : decode cX6_restore 18 = .ok (.aload_n 0, 1) := by decide +kernel
theorem dX6_restore_19 : decode cX6_restore 19 = .ok (.getfield 16, 3) := by decide +kernel
theorem dX6_restore_22 : decode cX6_restore 22 = .ok (.invokevirtual 189, 3) := by decide +kernel
theorem dX6_restore_25 : decode cX6_restore 25 = .ok (.aload_n 0, 1) := by decide +kernel
theorem dX6_restore_26 : decode cX6_restore 26 = .ok (.getfield 10, 3) := by decide +kernel
theorem dX6_restore_29 : decode cX6_restore 29 = .ok (.invokevirtual 123, 3) := by decide +kernel
theorem dX6_restore_32 : decode cX6_restore 32 = .ok (.ireturn, 1) := by decide +kernel
set_option maxRecDepth 20000 in
theorem ggX6_count_X2_pairsDanced : GoodIn wsX6_count wsX2_pairsDanced := goodIn_r _ [13, 14, 15, 16, 17, 18, 19, 20, 21, 22, 77, 78, 79, 80, 81, 82] (by decide +kernel) (by decide +kernel)
set_option maxRecDepth 20000 in
theorem gX6_count_X2_pairsDanced : GoodIn wsX6_count (wsV RX6 123 RX2 yX2_pairsDanced wsX2_pairsDanced) := goodIn_app (goodIn_of _ (by decide +kernel)) ggX6_count_X2_pairsDanced
set_option maxRecDepth 20000 in
theorem ggX6_count_X2_pairsAllowed : GoodIn wsX6_count wsX2_pairsAllowed := goodIn_r _ [26, 14, 27, 28, 29, 12, 30, 31, 32, 33, 34, 35, 36, 37, 38, 39, 15, 40, 41, 42, 43, 44, 45, 46, 47, 48, 49, 50, 51, 52, 53, 54, 55, 56, 57, 58, 59, 60, 16, 17, 18, 19, 20, 21, 22, 61, 62, 63, 64, 77, 78, 79, 80, 81, 82] (by decide +kernel) (by decide +kernel)
set_option maxRecDepth 20000 in
theorem gX6_count_X2_pairsAllowed : GoodIn wsX6_count (wsV RX6 193 RX2 yX2_pairsAllowed wsX2_pairsAllowed) := goodIn_app (goodIn_of _ (by decide +kernel)) ggX6_count_X2_pairsAllowed
set_option maxRecDepth 20000 in
theorem ggX6_count_X2_allBrought : GoodIn wsX6_count wsX2_allBrought := goodIn_r _ [68, 14, 55, 77, 78, 79, 80, 81, 82] (by decide +kernel) (by decide +kernel)
set_option maxRecDepth 20000 in
theorem gX6_count_X2_allBrought : GoodIn wsX6_count (wsV RX6 196 RX2 yX2_allBrought wsX2_allBrought) := goodIn_app (goodIn_of _ (by decide +kernel)) ggX6_count_X2_allBrought
theorem dX6_count_0 : decode cX6_count 0 = .ok (.iload_n 1, 1) := by decide +kernel
theorem dX6_count_1 : decode cX6_count 1 = .ok (.bipush 11, 2) := by decide +kernel
theorem dX6_count_3 : decode cX6_count 3 = .ok (.if_icmp .lt 19, 3) := by decide +kernel
theorem dX6_count_6 : decode cX6_count 6 = .ok (.iload_n 1, 1) := by decide +kernel
theorem dX6_count_7 : decode cX6_count 7 = .ok (.bipush 16, 2) := by decide +kernel
theorem dX6_count_9 : decode cX6_count 9 = .ok (.if_icmp .gt 13, 3) := by decide +kernel
theorem dX6_count_12 : decode cX6_count 12 = .ok (.aload_n 0, 1) := by decide +kernel
theorem dX6_count_13 : decode cX6_count 13 = .ok (.getfield 47, 3) := by decide +kernel
theorem dX6_count_16 : decode cX6_count 16 = .ok (.iload_n 1, 1) := by decide +kernel
theorem dX6_count_17 : decode cX6_count 17 = .ok (.bipush 10, 2) := by decide +kernel
theorem dX6_count_19 : decode cX6_count 19 = .ok (.isub, 1) := by decide +kernel
theorem dX6_count_20 : decode cX6_count 20 = .ok (.iaload, 1) := by decide +kernel
theorem dX6_count_21 : decode cX6_count 21 = .ok (.ireturn, 1) := by decide +kernel
theorem dX6_count_22 : decode cX6_count 22 = .ok (.iload_n 1, 1) := by decide +kernel
theorem dX6_count_23 : decode cX6_count 23 = .ok (.tableswitch 97 0 6 #[41, 49, 57, 65, 73, 81, 89], 41) := by decide +kernel
theorem dX6_count_64 : decode cX6_count 64 = .ok (.aload_n 0, 1) := by decide +kernel
theorem dX6_count_65 : decode cX6_count 65 = .ok (.getfield 10, 3) := by decide +kernel
theorem dX6_count_68 : decode cX6_count 68 = .ok (.getfield 185, 3) := by decide +kernel
theorem dX6_count_71 : decode cX6_count 71 = .ok (.ireturn, 1) := by decide +kernel
theorem dX6_count_72 : decode cX6_count 72 = .ok (.aload_n 0, 1) := by decide +kernel
theorem dX6_count_73 : decode cX6_count 73 = .ok (.getfield 10, 3) := by decide +kernel
theorem dX6_count_76 : decode cX6_count 76 = .ok (.invokevirtual 123, 3) := by decide +kernel
theorem dX6_count_79 : decode cX6_count 79 = .ok (.ireturn, 1) := by decide +kernel
theorem dX6_count_80 : decode cX6_count 80 = .ok (.aload_n 0, 1) := by decide +kernel
theorem dX6_count_81 : decode cX6_count 81 = .ok (.getfield 10, 3) := by decide +kernel
theorem dX6_count_84 : decode cX6_count 84 = .ok (.invokevirtual 193, 3) := by decide +kernel
theorem dX6_count_87 : decode cX6_count 87 = .ok (.ireturn, 1) := by decide +kernel
theorem dX6_count_88 : decode cX6_count 88 = .ok (.aload_n 0, 1) := by decide +kernel
theorem dX6_count_89 : decode cX6_count 89 = .ok (.getfield 10, 3) := by decide +kernel
theorem dX6_count_92 : decode cX6_count 92 = .ok (.getfield 94, 3) := by decide +kernel
theorem dX6_count_95 : decode cX6_count 95 = .ok (.ireturn, 1) := by decide +kernel
theorem dX6_count_96 : decode cX6_count 96 = .ok (.aload_n 0, 1) := by decide +kernel
theorem dX6_count_97 : decode cX6_count 97 = .ok (.getfield 10, 3) := by decide +kernel
theorem dX6_count_100 : decode cX6_count 100 = .ok (.invokevirtual 196, 3) := by decide +kernel
theorem dX6_count_103 : decode cX6_count 103 = .ok (.ireturn, 1) := by decide +kernel
theorem dX6_count_104 : decode cX6_count 104 = .ok (.aload_n 0, 1) := by decide +kernel
theorem dX6_count_105 : decode cX6_count 105 = .ok (.getfield 22, 3) := by decide +kernel
theorem dX6_count_108 : decode cX6_count 108 = .ok (.getfield 59, 3) := by decide +kernel
theorem dX6_count_111 : decode cX6_count 111 = .ok (.ireturn, 1) := by decide +kernel
theorem dX6_count_112 : decode cX6_count 112 = .ok (.aload_n 0, 1) := by decide +kernel
theorem dX6_count_113 : decode cX6_count 113 = .ok (.getfield 43, 3) := by decide +kernel
theorem dX6_count_116 : decode cX6_count 116 = .ok (.getfield 169, 3) := by decide +kernel
theorem dX6_count_119 : decode cX6_count 119 = .ok (.ireturn, 1) := by decide +kernel
theorem dX6_count_120 : decode cX6_count 120 = .ok (.bipush (-9), 2) := by decide +kernel
theorem dX6_count_122 : decode cX6_count 122 = .ok (.ireturn, 1) := by decide +kernel
theorem dX6_refuse_0 : decode cX6_refuse 0 = .ok (.aload_n 0, 1) := by decide +kernel
theorem dX6_refuse_1 : decode cX6_refuse 1 = .ok (.getfield 47, 3) := by decide +kernel
theorem dX6_refuse_4 : decode cX6_refuse 4 = .ok (.iload_n 1, 1) := by decide +kernel
theorem dX6_refuse_5 : decode cX6_refuse 5 = .ok (.ineg, 1) := by decide +kernel
theorem dX6_refuse_6 : decode cX6_refuse 6 = .ok (.dup2, 1) := by decide +kernel
theorem dX6_refuse_7 : decode cX6_refuse 7 = .ok (.iaload, 1) := by decide +kernel
theorem dX6_refuse_8 : decode cX6_refuse 8 = .ok (.iconst 1, 1) := by decide +kernel
theorem dX6_refuse_9 : decode cX6_refuse 9 = .ok (.iadd, 1) := by decide +kernel
theorem dX6_refuse_10 : decode cX6_refuse 10 = .ok (.iastore, 1) := by decide +kernel
theorem dX6_refuse_11 : decode cX6_refuse 11 = .ok (.iload_n 1, 1) := by decide +kernel
theorem dX6_refuse_12 : decode cX6_refuse 12 = .ok (.ireturn, 1) := by decide +kernel
theorem dX6_asNumber_0 : decode cX6_asNumber 0 = .ok (.iload_n 0, 1) := by decide +kernel
theorem dX6_asNumber_1 : decode cX6_asNumber 1 = .ok (.ifCond .eq 7, 3) := by decide +kernel
theorem dX6_asNumber_4 : decode cX6_asNumber 4 = .ok (.iconst 1, 1) := by decide +kernel
theorem dX6_asNumber_5 : decode cX6_asNumber 5 = .ok (.goto 4, 3) := by decide +kernel
theorem dX6_asNumber_8 : decode cX6_asNumber 8 = .ok (.iconst 0, 1) := by decide +kernel
theorem dX6_asNumber_9 : decode cX6_asNumber 9 = .ok (.ireturn, 1) := by decide +kernel
theorem dX6_isLaw_0 : decode cX6_isLaw 0 = .ok (.iload_n 0, 1) := by decide +kernel
theorem dX6_isLaw_1 : decode cX6_isLaw 1 = .ok (.ifCond .lt 12, 3) := by decide +kernel
theorem dX6_isLaw_4 : decode cX6_isLaw 4 = .ok (.iload_n 0, 1) := by decide +kernel
theorem dX6_isLaw_5 : decode cX6_isLaw 5 = .ok (.iconst 2, 1) := by decide +kernel
theorem dX6_isLaw_6 : decode cX6_isLaw 6 = .ok (.if_icmp .gt 7, 3) := by decide +kernel
theorem dX6_isLaw_9 : decode cX6_isLaw 9 = .ok (.iconst 1, 1) := by decide +kernel
theorem dX6_isLaw_10 : decode cX6_isLaw 10 = .ok (.goto 4, 3) := by decide +kernel
theorem dX6_isLaw_13 : decode cX6_isLaw 13 = .ok (.iconst 0, 1) := by decide +kernel
theorem dX6_isLaw_14 : decode cX6_isLaw 14 = .ok (.ireturn, 1) := by decide +kernel
theorem dX6_hasBit_0 : decode cX6_hasBit 0 = .ok (.iload_n 0, 1) := by decide +kernel
theorem dX6_hasBit_1 : decode cX6_hasBit 1 = .ok (.iload_n 1, 1) := by decide +kernel
theorem dX6_hasBit_2 : decode cX6_hasBit 2 = .ok (.ishr, 1) := by decide +kernel
theorem dX6_hasBit_3 : decode cX6_hasBit 3 = .ok (.iconst 1, 1) := by decide +kernel
theorem dX6_hasBit_4 : decode cX6_hasBit 4 = .ok (.iand, 1) := by decide +kernel
theorem dX6_hasBit_5 : decode cX6_hasBit 5 = .ok (.ifCond .eq 7, 3) := by decide +kernel
theorem dX6_hasBit_8 : decode cX6_hasBit 8 = .ok (.iconst 1, 1) := by decide +kernel
theorem dX6_hasBit_9 : decode cX6_hasBit 9 = .ok (.goto 4, 3) := by decide +kernel
theorem dX6_hasBit_12 : decode cX6_hasBit 12 = .ok (.iconst 0, 1) := by decide +kernel
theorem dX6_hasBit_13 : decode cX6_hasBit 13 = .ok (.ireturn, 1) := by decide +kernel
set_option maxRecDepth 20000 in
theorem ggX6_leastOf_X6_hasBit : GoodIn wsX6_leastOf wsX6_hasBit := goodIn_r _ [4] (by decide +kernel) (by decide +kernel)
set_option maxRecDepth 20000 in
theorem gX6_leastOf_X6_hasBit : GoodIn wsX6_leastOf (va_wsS RX6 199 yX6_hasBit wsX6_hasBit) := goodIn_app (goodIn_of _ (by decide +kernel)) ggX6_leastOf_X6_hasBit
theorem dX6_leastOf_0 : decode cX6_leastOf 0 = .ok (.iconst 0, 1) := by decide +kernel
theorem dX6_leastOf_1 : decode cX6_leastOf 1 = .ok (.istore_n 1, 1) := by decide +kernel
theorem dX6_leastOf_2 : decode cX6_leastOf 2 = .ok (.iload_n 1, 1) := by decide +kernel
theorem dX6_leastOf_3 : decode cX6_leastOf 3 = .ok (.bipush 8, 2) := by decide +kernel
theorem dX6_leastOf_5 : decode cX6_leastOf 5 = .ok (.if_icmp .ge 19, 3) := by decide +kernel
theorem dX6_leastOf_8 : decode cX6_leastOf 8 = .ok (.iload_n 0, 1) := by decide +kernel
theorem dX6_leastOf_9 : decode cX6_leastOf 9 = .ok (.iload_n 1, 1) := by decide +kernel
theorem dX6_leastOf_10 : decode cX6_leastOf 10 = .ok (.invokestatic 199, 3) := by decide +kernel
theorem dX6_leastOf_13 : decode cX6_leastOf 13 = .ok (.ifCond .eq 5, 3) := by decide +kernel
theorem dX6_leastOf_16 : decode cX6_leastOf 16 = .ok (.iload_n 1, 1) := by decide +kernel
theorem dX6_leastOf_17 : decode cX6_leastOf 17 = .ok (.ireturn, 1) := by decide +kernel
theorem dX6_leastOf_18 : decode cX6_leastOf 18 = .ok (.iinc 1 1, 3) := by decide +kernel
theorem dX6_leastOf_21 : decode cX6_leastOf 21 = .ok (.goto (-19), 3) := by decide +kernel
theorem dX6_leastOf_24 : decode cX6_leastOf 24 = .ok (.bipush 9, 2) := by decide +kernel
theorem dX6_leastOf_26 : decode cX6_leastOf 26 = .ok (.ireturn, 1) := by decide +kernel
theorem dX6_pairOf_0 : decode cX6_pairOf 0 = .ok (.bipush 10, 2) := by decide +kernel
theorem dX6_pairOf_2 : decode cX6_pairOf 2 = .ok (.iload_n 0, 1) := by decide +kernel
theorem dX6_pairOf_3 : decode cX6_pairOf 3 = .ok (.iload_n 1, 1) := by decide +kernel
theorem dX6_pairOf_4 : decode cX6_pairOf 4 = .ok (.invokestatic 202, 3) := by decide +kernel
theorem dX6_pairOf_7 : decode cX6_pairOf 7 = .ok (.imul, 1) := by decide +kernel
theorem dX6_pairOf_8 : decode cX6_pairOf 8 = .ok (.iload_n 0, 1) := by decide +kernel
theorem dX6_pairOf_9 : decode cX6_pairOf 9 = .ok (.iload_n 1, 1) := by decide +kernel
theorem dX6_pairOf_10 : decode cX6_pairOf 10 = .ok (.invokestatic 207, 3) := by decide +kernel
theorem dX6_pairOf_13 : decode cX6_pairOf 13 = .ok (.iadd, 1) := by decide +kernel
theorem dX6_pairOf_14 : decode cX6_pairOf 14 = .ok (.ireturn, 1) := by decide +kernel
theorem dX6_lesserOf_0 : decode cX6_lesserOf 0 = .ok (.iload_n 0, 1) := by decide +kernel
theorem dX6_lesserOf_1 : decode cX6_lesserOf 1 = .ok (.bipush 10, 2) := by decide +kernel
theorem dX6_lesserOf_3 : decode cX6_lesserOf 3 = .ok (.idiv, 1) := by decide +kernel
theorem dX6_lesserOf_4 : decode cX6_lesserOf 4 = .ok (.ireturn, 1) := by decide +kernel
theorem dX6_greaterOf_0 : decode cX6_greaterOf 0 = .ok (.iload_n 0, 1) := by decide +kernel
theorem dX6_greaterOf_1 : decode cX6_greaterOf 1 = .ok (.bipush 10, 2) := by decide +kernel
theorem dX6_greaterOf_3 : decode cX6_greaterOf 3 = .ok (.irem, 1) := by decide +kernel
theorem dX6_greaterOf_4 : decode cX6_greaterOf 4 = .ok (.ireturn, 1) := by decide +kernel
theorem dX7_init_0 : decode cX7_init 0 = .ok (.aload_n 0, 1) := by decide +kernel
theorem dX7_init_1 : decode cX7_init 1 = .ok (.invokespecial 1, 3) := by decide +kernel
theorem dX7_init_4 : decode cX7_init 4 = .ok (.aload_n 0, 1) := by decide +kernel
theorem dX7_init_5 : decode cX7_init 5 = .ok (.bipush 7, 2) := by decide +kernel
theorem dX7_init_7 : decode cX7_init 7 = .ok (.newarray .int, 2) := by decide +kernel
theorem dX7_init_9 : decode cX7_init 9 = .ok (.putfield 7, 3) := by decide +kernel
theorem dX7_init_12 : decode cX7_init 12 = .ok (.aload_n 0, 1) := by decide +kernel
theorem dX7_init_13 : decode cX7_init 13 = .ok (.bipush 8, 2) := by decide +kernel
theorem dX7_init_15 : decode cX7_init 15 = .ok (.newarray .int, 2) := by decide +kernel
theorem dX7_init_17 : decode cX7_init 17 = .ok (.putfield 13, 3) := by decide +kernel
theorem dX7_init_20 : decode cX7_init 20 = .ok (.aload_n 0, 1) := by decide +kernel
theorem dX7_init_21 : decode cX7_init 21 = .ok (.bipush 8, 2) := by decide +kernel
theorem dX7_init_23 : decode cX7_init 23 = .ok (.newarray .int, 2) := by decide +kernel
theorem dX7_init_25 : decode cX7_init 25 = .ok (.putfield 16, 3) := by decide +kernel
theorem dX7_init_28 : decode cX7_init 28 = .ok (.aload_n 0, 1) := by decide +kernel
theorem dX7_init_29 : decode cX7_init 29 = .ok (.bipush 8, 2) := by decide +kernel
theorem dX7_init_31 : decode cX7_init 31 = .ok (.newarray .int, 2) := by decide +kernel
theorem dX7_init_33 : decode cX7_init 33 = .ok (.putfield 19, 3) := by decide +kernel
theorem dX7_init_36 : decode cX7_init 36 = .ok (.aload_n 0, 1) := by decide +kernel
theorem dX7_init_37 : decode cX7_init 37 = .ok (.bipush 8, 2) := by decide +kernel
theorem dX7_init_39 : decode cX7_init 39 = .ok (.newarray .int, 2) := by decide +kernel
theorem dX7_init_41 : decode cX7_init 41 = .ok (.putfield 22, 3) := by decide +kernel
theorem dX7_init_44 : decode cX7_init 44 = .ok (.aload_n 0, 1) := by decide +kernel
theorem dX7_init_45 : decode cX7_init 45 = .ok (.bipush 64, 2) := by decide +kernel
theorem dX7_init_47 : decode cX7_init 47 = .ok (.newarray .int, 2) := by decide +kernel
theorem dX7_init_49 : decode cX7_init 49 = .ok (.putfield 25, 3) := by decide +kernel
theorem dX7_init_52 : decode cX7_init 52 = .ok (.aload_n 0, 1) := by decide +kernel
theorem dX7_init_53 : decode cX7_init 53 = .ok (.bipush 32, 2) := by decide +kernel
theorem dX7_init_55 : decode cX7_init 55 = .ok (.newarray .int, 2) := by decide +kernel
theorem dX7_init_57 : decode cX7_init 57 = .ok (.putfield 28, 3) := by decide +kernel
theorem dX7_init_60 : decode cX7_init 60 = .ok (.aload_n 0, 1) := by decide +kernel
theorem dX7_init_61 : decode cX7_init 61 = .ok (.bipush 32, 2) := by decide +kernel
theorem dX7_init_63 : decode cX7_init 63 = .ok (.newarray .int, 2) := by decide +kernel
theorem dX7_init_65 : decode cX7_init 65 = .ok (.putfield 31, 3) := by decide +kernel
theorem dX7_init_68 : decode cX7_init 68 = .ok (.aload_n 0, 1) := by decide +kernel
theorem dX7_init_69 : decode cX7_init 69 = .ok (.bipush 32, 2) := by decide +kernel
theorem dX7_init_71 : decode cX7_init 71 = .ok (.newarray .int, 2) := by decide +kernel
theorem dX7_init_73 : decode cX7_init 73 = .ok (.putfield 34, 3) := by decide +kernel
theorem dX7_init_76 : decode cX7_init 76 = .ok (.aload_n 0, 1) := by decide +kernel
theorem dX7_init_77 : decode cX7_init 77 = .ok (.bipush 32, 2) := by decide +kernel
theorem dX7_init_79 : decode cX7_init 79 = .ok (.newarray .int, 2) := by decide +kernel
theorem dX7_init_81 : decode cX7_init 81 = .ok (.putfield 37, 3) := by decide +kernel
theorem dX7_init_84 : decode cX7_init 84 = .ok (.aload_n 0, 1) := by decide +kernel
theorem dX7_init_85 : decode cX7_init 85 = .ok (.sipush 400, 3) := by decide +kernel
theorem dX7_init_88 : decode cX7_init 88 = .ok (.newarray .int, 2) := by decide +kernel
theorem dX7_init_90 : decode cX7_init 90 = .ok (.putfield 40, 3) := by decide +kernel
theorem dX7_init_93 : decode cX7_init 93 = .ok (.aload_n 0, 1) := by decide +kernel
theorem dX7_init_94 : decode cX7_init 94 = .ok (.bipush 8, 2) := by decide +kernel
theorem dX7_init_96 : decode cX7_init 96 = .ok (.newarray .int, 2) := by decide +kernel
theorem dX7_init_98 : decode cX7_init 98 = .ok (.putfield 43, 3) := by decide +kernel
theorem dX7_init_101 : decode cX7_init 101 = .ok (.aload_n 0, 1) := by decide +kernel
theorem dX7_init_102 : decode cX7_init 102 = .ok (.bipush 8, 2) := by decide +kernel
theorem dX7_init_104 : decode cX7_init 104 = .ok (.newarray .int, 2) := by decide +kernel
theorem dX7_init_106 : decode cX7_init 106 = .ok (.putfield 46, 3) := by decide +kernel
theorem dX7_init_109 : decode cX7_init 109 = .ok (.aload_n 0, 1) := by decide +kernel
theorem dX7_init_110 : decode cX7_init 110 = .ok (.bipush 64, 2) := by decide +kernel
theorem dX7_init_112 : decode cX7_init 112 = .ok (.newarray .int, 2) := by decide +kernel
theorem dX7_init_114 : decode cX7_init 114 = .ok (.putfield 49, 3) := by decide +kernel
theorem dX7_init_117 : decode cX7_init 117 = .ok (.aload_n 0, 1) := by decide +kernel
theorem dX7_init_118 : decode cX7_init 118 = .ok (.bipush 28, 2) := by decide +kernel
theorem dX7_init_120 : decode cX7_init 120 = .ok (.newarray .int, 2) := by decide +kernel
theorem dX7_init_122 : decode cX7_init 122 = .ok (.putfield 52, 3) := by decide +kernel
theorem dX7_init_125 : decode cX7_init 125 = .ok (.aload_n 0, 1) := by decide +kernel
theorem dX7_init_126 : decode cX7_init 126 = .ok (.bipush 28, 2) := by decide +kernel
theorem dX7_init_128 : decode cX7_init 128 = .ok (.newarray .int, 2) := by decide +kernel
theorem dX7_init_130 : decode cX7_init 130 = .ok (.putfield 55, 3) := by decide +kernel
theorem dX7_init_133 : decode cX7_init 133 = .ok (.aload_n 0, 1) := by decide +kernel
theorem dX7_init_134 : decode cX7_init 134 = .ok (.bipush 6, 2) := by decide +kernel
theorem dX7_init_136 : decode cX7_init 136 = .ok (.newarray .int, 2) := by decide +kernel
theorem dX7_init_138 : decode cX7_init 138 = .ok (.putfield 58, 3) := by decide +kernel
theorem dX7_init_141 : decode cX7_init 141 = .ok (.aload_n 0, 1) := by decide +kernel
theorem dX7_init_142 : decode cX7_init 142 = .ok (.bipush 6, 2) := by decide +kernel
theorem dX7_init_144 : decode cX7_init 144 = .ok (.newarray .int, 2) := by decide +kernel
theorem dX7_init_146 : decode cX7_init 146 = .ok (.putfield 61, 3) := by decide +kernel
theorem dX7_init_149 : decode cX7_init 149 = .ok (.aload_n 0, 1) := by decide +kernel
theorem dX7_init_150 : decode cX7_init 150 = .ok (.bipush 6, 2) := by decide +kernel
theorem dX7_init_152 : decode cX7_init 152 = .ok (.newarray .int, 2) := by decide +kernel
theorem dX7_init_154 : decode cX7_init 154 = .ok (.putfield 64, 3) := by decide +kernel
theorem dX7_init_157 : decode cX7_init 157 = .ok (.aload_n 0, 1) := by decide +kernel
theorem dX7_init_158 : decode cX7_init 158 = .ok (.bipush 8, 2) := by decide +kernel
theorem dX7_init_160 : decode cX7_init 160 = .ok (.newarray .int, 2) := by decide +kernel
theorem dX7_init_162 : decode cX7_init 162 = .ok (.putfield 67, 3) := by decide +kernel
theorem dX7_init_165 : decode cX7_init 165 = .ok (.return_, 1) := by decide +kernel
theorem dX7_no_0 : decode cX7_no 0 = .ok (.aload_n 0, 1) := by decide +kernel
theorem dX7_no_1 : decode cX7_no 1 = .ok (.getfield 7, 3) := by decide +kernel
theorem dX7_no_4 : decode cX7_no 4 = .ok (.iload_n 1, 1) := by decide +kernel
theorem dX7_no_5 : decode cX7_no 5 = .ok (.ineg, 1) := by decide +kernel
theorem dX7_no_6 : decode cX7_no 6 = .ok (.dup2, 1) := by decide +kernel
theorem dX7_no_7 : decode cX7_no 7 = .ok (.iaload, 1) := by decide +kernel
theorem dX7_no_8 : decode cX7_no 8 = .ok (.iconst 1, 1) := by decide +kernel
theorem dX7_no_9 : decode cX7_no 9 = .ok (.iadd, 1) := by decide +kernel
theorem dX7_no_10 : decode cX7_no 10 = .ok (.iastore, 1) := by decide +kernel
theorem dX7_no_11 : decode cX7_no 11 = .ok (.iload_n 1, 1) := by decide +kernel
theorem dX7_no_12 : decode cX7_no 12 = .ok (.ireturn, 1) := by decide +kernel
theorem dX7_isIn_0 : decode cX7_isIn 0 = .ok (.iload_n 0, 1) := by decide +kernel
theorem dX7_isIn_1 : decode cX7_isIn 1 = .ok (.iload_n 1, 1) := by decide +kernel
theorem dX7_isIn_2 : decode cX7_isIn 2 = .ok (.if_icmp .lt 12, 3) := by decide +kernel
theorem dX7_isIn_5 : decode cX7_isIn 5 = .ok (.iload_n 0, 1) := by decide +kernel
theorem dX7_isIn_6 : decode cX7_isIn 6 = .ok (.iload_n 2, 1) := by decide +kernel
theorem dX7_isIn_7 : decode cX7_isIn 7 = .ok (.if_icmp .gt 7, 3) := by decide +kernel
theorem dX7_isIn_10 : decode cX7_isIn 10 = .ok (.iconst 1, 1) := by decide +kernel
theorem dX7_isIn_11 : decode cX7_isIn 11 = .ok (.goto 4, 3) := by decide +kernel
theorem dX7_isIn_14 : decode cX7_isIn 14 = .ok (.iconst 0, 1) := by decide +kernel
theorem dX7_isIn_15 : decode cX7_isIn 15 = .ok (.ireturn, 1) := by decide +kernel
theorem dX7_bound_0 : decode cX7_bound 0 = .ok (.iload_n 0, 1) := by decide +kernel
theorem dX7_bound_1 : decode cX7_bound 1 = .ok (.iload_n 1, 1) := by decide +kernel
theorem dX7_bound_2 : decode cX7_bound 2 = .ok (.if_icmp .ge 8, 3) := by decide +kernel
theorem dX7_bound_5 : decode cX7_bound 5 = .ok (.bipush (-4), 2) := by decide +kernel
theorem dX7_bound_7 : decode cX7_bound 7 = .ok (.goto 14, 3) := by decide +kernel
theorem dX7_bound_10 : decode cX7_bound 10 = .ok (.iload_n 0, 1) := by decide +kernel
theorem dX7_bound_11 : decode cX7_bound 11 = .ok (.iload_n 2, 1) := by decide +kernel
theorem dX7_bound_12 : decode cX7_bound 12 = .ok (.if_icmp .le 8, 3) := by decide +kernel
theorem dX7_bound_15 : decode cX7_bound 15 = .ok (.bipush (-6), 2) := by decide +kernel
theorem dX7_bound_17 : decode cX7_bound 17 = .ok (.goto 4, 3) := by decide +kernel
theorem dX7_bound_20 : decode cX7_bound 20 = .ok (.iconst 0, 1) := by decide +kernel
theorem dX7_bound_21 : decode cX7_bound 21 = .ok (.ireturn, 1) := by decide +kernel
theorem dX7_isDancer_0 : decode cX7_isDancer 0 = .ok (.iload_n 1, 1) := by decide +kernel
theorem dX7_isDancer_1 : decode cX7_isDancer 1 = .ok (.ifCond .lt 15, 3) := by decide +kernel
theorem dX7_isDancer_4 : decode cX7_isDancer 4 = .ok (.iload_n 1, 1) := by decide +kernel
theorem dX7_isDancer_5 : decode cX7_isDancer 5 = .ok (.aload_n 0, 1) := by decide +kernel
theorem dX7_isDancer_6 : decode cX7_isDancer 6 = .ok (.getfield 70, 3) := by decide +kernel
theorem dX7_isDancer_9 : decode cX7_isDancer 9 = .ok (.if_icmp .ge 7, 3) := by decide +kernel
theorem dX7_isDancer_12 : decode cX7_isDancer 12 = .ok (.iconst 1, 1) := by decide +kernel
theorem dX7_isDancer_13 : decode cX7_isDancer 13 = .ok (.goto 4, 3) := by decide +kernel
theorem dX7_isDancer_16 : decode cX7_isDancer 16 = .ok (.iconst 0, 1) := by decide +kernel
theorem dX7_isDancer_17 : decode cX7_isDancer 17 = .ok (.ireturn, 1) := by decide +kernel
set_option maxRecDepth 20000 in
theorem ggX7_areTwo_X7_isDancer : GoodIn wsX7_areTwo wsX7_isDancer := goodIn_r _ [5, 6, 7, 8, 9, 10, 11, 12, 13, 14, 15, 16, 17, 18, 19, 20, 21, 22, 23, 24, 25, 26, 27, 28, 29, 30, 31, 32, 33, 34, 35, 36, 37, 38, 39] (by decide +kernel) (by decide +kernel)
set_option maxRecDepth 20000 in
theorem gX7_areTwo_X7_isDancer : GoodIn wsX7_areTwo (wsV RX7 74 RX7 yX7_isDancer wsX7_isDancer) := goodIn_app (goodIn_of _ (by decide +kernel)) ggX7_areTwo_X7_isDancer
theorem dX7_areTwo_0 : decode cX7_areTwo 0 = .ok (.aload_n 0, 1) := by decide +kernel
theorem dX7_areTwo_1 : decode cX7_areTwo 1 = .ok (.iload_n 1, 1) := by decide +kernel
theorem dX7_areTwo_2 : decode cX7_areTwo 2 = .ok (.invokevirtual 74, 3) := by decide +kernel
theorem dX7_areTwo_5 : decode cX7_areTwo 5 = .ok (.ifCond .eq 20, 3) := by decide +kernel
theorem dX7_areTwo_8 : decode cX7_areTwo 8 = .ok (.aload_n 0, 1) := by decide +kernel
theorem dX7_areTwo_9 : decode cX7_areTwo 9 = .ok (.iload_n 2, 1) := by decide +kernel
theorem dX7_areTwo_10 : decode cX7_areTwo 10 = .ok (.invokevirtual 74, 3) := by decide +kernel
theorem dX7_areTwo_13 : decode cX7_areTwo 13 = .ok (.ifCond .eq 12, 3) := by decide +kernel
theorem dX7_areTwo_16 : decode cX7_areTwo 16 = .ok (.iload_n 1, 1) := by decide +kernel
theorem dX7_areTwo_17 : decode cX7_areTwo 17 = .ok (.iload_n 2, 1) := by decide +kernel
theorem dX7_areTwo_18 : decode cX7_areTwo 18 = .ok (.if_icmp .eq 7, 3) := by decide +kernel
theorem dX7_areTwo_21 : decode cX7_areTwo 21 = .ok (.iconst 1, 1) := by decide +kernel
theorem dX7_areTwo_22 : decode cX7_areTwo 22 = .ok (.goto 4, 3) := by decide +kernel
theorem dX7_areTwo_25 : decode cX7_areTwo 25 = .ok (.iconst 0, 1) := by decide +kernel
theorem dX7_areTwo_26 : decode cX7_areTwo 26 = .ok (.ireturn, 1) := by decide +kernel
theorem dX7_haveDanced_0 : decode cX7_haveDanced 0 = .ok (.aload_n 0, 1) := by decide +kernel
theorem dX7_haveDanced_1 : decode cX7_haveDanced 1 = .ok (.getfield 22, 3) := by decide +kernel
theorem dX7_haveDanced_4 : decode cX7_haveDanced 4 = .ok (.iload_n 1, 1) := by decide +kernel
theorem dX7_haveDanced_5 : decode cX7_haveDanced 5 = .ok (.iaload, 1) := by decide +kernel
theorem dX7_haveDanced_6 : decode cX7_haveDanced 6 = .ok (.iload_n 2, 1) := by decide +kernel
theorem dX7_haveDanced_7 : decode cX7_haveDanced 7 = .ok (.ishr, 1) := by decide +kernel
theorem dX7_haveDanced_8 : decode cX7_haveDanced 8 = .ok (.iconst 1, 1) := by decide +kernel
theorem dX7_haveDanced_9 : decode cX7_haveDanced 9 = .ok (.iand, 1) := by decide +kernel
theorem dX7_haveDanced_10 : decode cX7_haveDanced 10 = .ok (.iconst 1, 1) := by decide +kernel
theorem dX7_haveDanced_11 : decode cX7_haveDanced 11 = .ok (.if_icmp .ne 7, 3) := by decide +kernel
theorem dX7_haveDanced_14 : decode cX7_haveDanced 14 = .ok (.iconst 1, 1) := by decide +kernel
theorem dX7_haveDanced_15 : decode cX7_haveDanced 15 = .ok (.goto 4, 3) := by decide +kernel
theorem dX7_haveDanced_18 : decode cX7_haveDanced 18 = .ok (.iconst 0, 1) := by decide +kernel
theorem dX7_haveDanced_19 : decode cX7_haveDanced 19 = .ok (.ireturn, 1) := by decide +kernel
theorem dX7_joins_0 : decode cX7_joins 0 = .ok (.aload_n 0, 1) := by decide +kernel
theorem dX7_joins_1 : decode cX7_joins 1 = .ok (.getfield 22, 3) := by decide +kernel
theorem dX7_joins_4 : decode cX7_joins 4 = .ok (.iload_n 1, 1) := by decide +kernel
theorem dX7_joins_5 : decode cX7_joins 5 = .ok (.dup2, 1) := by decide +kernel
theorem dX7_joins_6 : decode cX7_joins 6 = .ok (.iaload, 1) := by decide +kernel
theorem dX7_joins_7 : decode cX7_joins 7 = .ok (.iconst 1, 1) := by decide +kernel
theorem dX7_joins_8 : decode cX7_joins 8 = .ok (.iload_n 2, 1) := by decide +kernel
theorem dX7_joins_9 : decode cX7_joins 9 = .ok (.ishl, 1) := by decide +kernel
theorem dX7_joins_10 : decode cX7_joins 10 = .ok (.ior, 1) := by decide +kernel
theorem dX7_joins_11 : decode cX7_joins 11 = .ok (.iastore, 1) := by decide +kernel
theorem dX7_joins_12 : decode cX7_joins 12 = .ok (.aload_n 0, 1) := by decide +kernel
theorem dX7_joins_13 : decode cX7_joins 13 = .ok (.getfield 22, 3) := by decide +kernel
theorem dX7_joins_16 : decode cX7_joins 16 = .ok (.iload_n 2, 1) := by decide +kernel
theorem dX7_joins_17 : decode cX7_joins 17 = .ok (.dup2, 1) := by decide +kernel
theorem dX7_joins_18 : decode cX7_joins 18 = .ok (.iaload, 1) := by decide +kernel
theorem dX7_joins_19 : decode cX7_joins 19 = .ok (.iconst 1, 1) := by decide +kernel
theorem dX7_joins_20 : decode cX7_joins 20 = .ok (.iload_n 1, 1) := by decide +kernel
theorem dX7_joins_21 : decode cX7_joins 21 = .ok (.ishl, 1) := by decide +kernel
theorem dX7_joins_22 : decode cX7_joins 22 = .ok (.ior, 1) := by decide +kernel
theorem dX7_joins_23 : decode cX7_joins 23 = .ok (.iastore, 1) := by decide +kernel
theorem dX7_joins_24 : decode cX7_joins 24 = .ok (.return_, 1) := by decide +kernel
theorem dX7_parts_0 : decode cX7_parts 0 = .ok (.aload_n 0, 1) := by decide +kernel
theorem dX7_parts_1 : decode cX7_parts 1 = .ok (.getfield 22, 3) := by decide +kernel
theorem dX7_parts_4 : decode cX7_parts 4 = .ok (.iload_n 1, 1) := by decide +kernel
theorem dX7_parts_5 : decode cX7_parts 5 = .ok (.dup2, 1) := by decide +kernel
theorem dX7_parts_6 : decode cX7_parts 6 = .ok (.iaload, 1) := by decide +kernel
theorem dX7_parts_7 : decode cX7_parts 7 = .ok (.iconst 1, 1) := by decide +kernel
theorem dX7_parts_8 : decode cX7_parts 8 = .ok (.iload_n 2, 1) := by decide +kernel
theorem dX7_parts_9 : decode cX7_parts 9 = .ok (.ishl, 1) := by decide +kernel
theorem dX7_parts_10 : decode cX7_parts 10 = .ok (.iconst (-1), 1) := by decide +kernel
theorem dX7_parts_11 : decode cX7_parts 11 = .ok (.ixor, 1) := by decide +kernel
theorem dX7_parts_12 : decode cX7_parts 12 = .ok (.iand, 1) := by decide +kernel
theorem dX7_parts_13 : decode cX7_parts 13 = .ok (.iastore, 1) := by decide +kernel
theorem dX7_parts_14 : decode cX7_parts 14 = .ok (.aload_n 0, 1) := by decide +kernel
theorem dX7_parts_15 : decode cX7_parts 15 = .ok (.getfield 22, 3) := by decide +kernel
theorem dX7_parts_18 : decode cX7_parts 18 = .ok (.iload_n 2, 1) := by decide +kernel
theorem dX7_parts_19 : decode cX7_parts 19 = .ok (.dup2, 1) := by decide +kernel
theorem dX7_parts_20 : decode cX7_parts 20 = .ok (.iaload, 1) := by decide +kernel
theorem dX7_parts_21 : decode cX7_parts 21 = .ok (.iconst 1, 1) := by decide +kernel
theorem dX7_parts_22 : decode cX7_parts 22 = .ok (.iload_n 1, 1) := by decide +kernel
theorem dX7_parts_23 : decode cX7_parts 23 = .ok (.ishl, 1) := by decide +kernel
theorem dX7_parts_24 : decode cX7_parts 24 = .ok (.iconst (-1), 1) := by decide +kernel
theorem dX7_parts_25 : decode cX7_parts 25 = .ok (.ixor, 1) := by decide +kernel
theorem dX7_parts_26 : decode cX7_parts 26 = .ok (.iand, 1) := by decide +kernel
theorem dX7_parts_27 : decode cX7_parts 27 = .ok (.iastore, 1) := by decide +kernel
theorem dX7_parts_28 : decode cX7_parts 28 = .ok (.return_, 1) := by decide +kernel
theorem dX7_bits_0 : decode cX7_bits 0 = .ok (.iconst 0, 1) := by decide +kernel
theorem dX7_bits_1 : decode cX7_bits 1 = .ok (.istore_n 1, 1) := by decide +kernel
theorem dX7_bits_2 : decode cX7_bits 2 = .ok (.iconst 0, 1) := by decide +kernel
theorem dX7_bits_3 : decode cX7_bits 3 = .ok (.istore_n 2, 1) := by decide +kernel
theorem dX7_bits_4 : decode cX7_bits 4 = .ok (.iload_n 2, 1) := by decide +kernel
theorem dX7_bits_5 : decode cX7_bits 5 = .ok (.bipush 31, 2) := by decide +kernel
theorem dX7_bits_7 : decode cX7_bits 7 = .ok (.if_icmp .ge 17, 3) := by decide +kernel
theorem dX7_bits_10 : decode cX7_bits 10 = .ok (.iload_n 1, 1) := by decide +kernel
theorem dX7_bits_11 : decode cX7_bits 11 = .ok (.iload_n 0, 1) := by decide +kernel
theorem dX7_bits_12 : decode cX7_bits 12 = .ok (.iload_n 2, 1) := by decide +kernel
theorem dX7_bits_13 : decode cX7_bits 13 = .ok (.ishr, 1) := by decide +kernel
theorem dX7_bits_14 : decode cX7_bits 14 = .ok (.iconst 1, 1) := by decide +kernel
theorem dX7_bits_15 : decode cX7_bits 15 = .ok (.iand, 1) := by decide +kernel
theorem dX7_bits_16 : decode cX7_bits 16 = .ok (.iadd, 1) := by decide +kernel
theorem dX7_bits_17 : decode cX7_bits 17 = .ok (.istore_n 1, 1) := by decide +kernel
theorem dX7_bits_18 : decode cX7_bits 18 = .ok (.iinc 2 1, 3) := by decide +kernel
theorem dX7_bits_21 : decode cX7_bits 21 = .ok (.goto (-17), 3) := by decide +kernel
theorem dX7_bits_24 : decode cX7_bits 24 = .ok (.iload_n 1, 1) := by decide +kernel
theorem dX7_bits_25 : decode cX7_bits 25 = .ok (.ireturn, 1) := by decide +kernel
set_option maxRecDepth 20000 in
theorem ggX7_pairsDanced_X7_bits : GoodIn wsX7_pairsDanced wsX7_bits := goodIn_r _ [6] (by decide +kernel) (by decide +kernel)
set_option maxRecDepth 20000 in
theorem gX7_pairsDanced_X7_bits : GoodIn wsX7_pairsDanced (va_wsS RX7 78 yX7_bits wsX7_bits) := goodIn_app (goodIn_of _ (by decide +kernel)) ggX7_pairsDanced_X7_bits
theorem dX7_pairsDanced_0 : decode cX7_pairsDanced 0 = .ok (.iconst 0, 1) := by decide +kernel
theorem dX7_pairsDanced_1 : decode cX7_pairsDanced 1 = .ok (.istore_n 1, 1) := by decide +kernel
theorem dX7_pairsDanced_2 : decode cX7_pairsDanced 2 = .ok (.iconst 0, 1) := by decide +kernel
theorem dX7_pairsDanced_3 : decode cX7_pairsDanced 3 = .ok (.istore_n 2, 1) := by decide +kernel
theorem dX7_pairsDanced_4 : decode cX7_pairsDanced 4 = .ok (.iload_n 2, 1) := by decide +kernel
theorem dX7_pairsDanced_5 : decode cX7_pairsDanced 5 = .ok (.aload_n 0, 1) := by decide +kernel
theorem dX7_pairsDanced_6 : decode cX7_pairsDanced 6 = .ok (.getfield 70, 3) := by decide +kernel
theorem dX7_pairsDanced_9 : decode cX7_pairsDanced 9 = .ok (.if_icmp .ge 21, 3) := by decide +kernel
theorem dX7_pairsDanced_12 : decode cX7_pairsDanced 12 = .ok (.iload_n 1, 1) := by decide +kernel
theorem dX7_pairsDanced_13 : decode cX7_pairsDanced 13 = .ok (.aload_n 0, 1) := by decide +kernel
theorem dX7_pairsDanced_14 : decode cX7_pairsDanced 14 = .ok (.getfield 22, 3) := by decide +kernel
theorem dX7_pairsDanced_17 : decode cX7_pairsDanced 17 = .ok (.iload_n 2, 1) := by decide +kernel
theorem dX7_pairsDanced_18 : decode cX7_pairsDanced 18 = .ok (.iaload, 1) := by decide +kernel
theorem dX7_pairsDanced_19 : decode cX7_pairsDanced 19 = .ok (.invokestatic 78, 3) := by decide +kernel
theorem dX7_pairsDanced_22 : decode cX7_pairsDanced 22 = .ok (.iadd, 1) := by decide +kernel
theorem dX7_pairsDanced_23 : decode cX7_pairsDanced 23 = .ok (.istore_n 1, 1) := by decide +kernel
theorem dX7_pairsDanced_24 : decode cX7_pairsDanced 24 = .ok (.iinc 2 1, 3) := by decide +kernel
theorem dX7_pairsDanced_27 : decode cX7_pairsDanced 27 = .ok (.goto (-23), 3) := by decide +kernel
theorem dX7_pairsDanced_30 : decode cX7_pairsDanced 30 = .ok (.iload_n 1, 1) := by decide +kernel
theorem dX7_pairsDanced_31 : decode cX7_pairsDanced 31 = .ok (.iconst 2, 1) := by decide +kernel
theorem dX7_pairsDanced_32 : decode cX7_pairsDanced 32 = .ok (.idiv, 1) := by decide +kernel
theorem dX7_pairsDanced_33 : decode cX7_pairsDanced 33 = .ok (.ireturn, 1) := by decide +kernel
set_option maxRecDepth 20000 in
theorem ggX7_feed_X7_bound : GoodIn wsX7_feed wsX7_bound := goodIn_r _ [6] (by decide +kernel) (by decide +kernel)
set_option maxRecDepth 20000 in
theorem gX7_feed_X7_bound : GoodIn wsX7_feed (va_wsS RX7 82 yX7_bound wsX7_bound) := goodIn_app (goodIn_of _ (by decide +kernel)) ggX7_feed_X7_bound
set_option maxRecDepth 20000 in
theorem ggX7_feed_X7_no : GoodIn wsX7_feed wsX7_no := goodIn_r _ [10, 11, 12, 13, 14, 15, 16, 17, 18, 19, 20, 21, 22, 23, 24, 25, 26, 27, 28, 29, 30, 31, 32, 33, 34, 35, 36, 37, 38, 39, 40, 41, 42, 43, 44] (by decide +kernel) (by decide +kernel)
set_option maxRecDepth 20000 in
theorem gX7_feed_X7_no : GoodIn wsX7_feed (wsV RX7 89 RX7 yX7_no wsX7_no) := goodIn_app (goodIn_of _ (by decide +kernel)) ggX7_feed_X7_no
theorem dX7_feed_0 : decode cX7_feed 0 = .ok (.iload_n 1, 1) := by decide +kernel
theorem dX7_feed_1 : decode cX7_feed 1 = .ok (.iconst 0, 1) := by decide +kernel
theorem dX7_feed_2 : decode cX7_feed 2 = .ok (.sipush 255, 3) := by decide +kernel
theorem dX7_feed_5 : decode cX7_feed 5 = .ok (.invokestatic 82, 3) := by decide +kernel
theorem dX7_feed_8 : decode cX7_feed 8 = .ok (.istore_n 2, 1) := by decide +kernel
theorem dX7_feed_9 : decode cX7_feed 9 = .ok (.iload_n 2, 1) := by decide +kernel
theorem dX7_feed_10 : decode cX7_feed 10 = .ok (.ifCond .ne 15, 3) := by decide +kernel
theorem dX7_feed_13 : decode cX7_feed 13 = .ok (.aload_n 0, 1) := by decide +kernel
theorem dX7_feed_14 : decode cX7_feed 14 = .ok (.getfield 86, 3) := by decide +kernel
theorem dX7_feed_17 : decode cX7_feed 17 = .ok (.bipush 64, 2) := by decide +kernel
theorem dX7_feed_19 : decode cX7_feed 19 = .ok (.if_icmp .ne 6, 3) := by decide +kernel
theorem dX7_feed_22 : decode cX7_feed 22 = .ok (.bipush (-6), 2) := by decide +kernel
theorem dX7_feed_24 : decode cX7_feed 24 = .ok (.istore_n 2, 1) := by decide +kernel
theorem dX7_feed_25 : decode cX7_feed 25 = .ok (.iload_n 2, 1) := by decide +kernel
theorem dX7_feed_26 : decode cX7_feed 26 = .ok (.ifCond .eq 9, 3) := by decide +kernel
theorem dX7_feed_29 : decode cX7_feed 29 = .ok (.aload_n 0, 1) := by decide +kernel
theorem dX7_feed_30 : decode cX7_feed 30 = .ok (.iload_n 2, 1) := by decide +kernel
theorem dX7_feed_31 : decode cX7_feed 31 = .ok (.invokevirtual 89, 3) := by decide +kernel
theorem dX7_feed_34 : decode cX7_feed 34 = .ok (.ireturn, 1) := by decide +kernel
theorem dX7_feed_35 : decode cX7_feed 35 = .ok (.aload_n 0, 1) := by decide +kernel
theorem dX7_feed_36 : decode cX7_feed 36 = .ok (.getfield 25, 3) := by decide +kernel
theorem dX7_feed_39 : decode cX7_feed 39 = .ok (.aload_n 0, 1) := by decide +kernel
theorem dX7_feed_40 : decode cX7_feed 40 = .ok (.getfield 86, 3) := by decide +kernel
theorem dX7_feed_43 : decode cX7_feed 43 = .ok (.iload_n 1, 1) := by decide +kernel
theorem dX7_feed_44 : decode cX7_feed 44 = .ok (.iastore, 1) := by decide +kernel
theorem dX7_feed_45 : decode cX7_feed 45 = .ok (.aload_n 0, 1) := by decide +kernel
theorem dX7_feed_46 : decode cX7_feed 46 = .ok (.dup, 1) := by decide +kernel
theorem dX7_feed_47 : decode cX7_feed 47 = .ok (.getfield 86, 3) := by decide +kernel
theorem dX7_feed_50 : decode cX7_feed 50 = .ok (.iconst 1, 1) := by decide +kernel
theorem dX7_feed_51 : decode cX7_feed 51 = .ok (.iadd, 1) := by decide +kernel
theorem dX7_feed_52 : decode cX7_feed 52 = .ok (.putfield 86, 3) := by decide +kernel
theorem dX7_feed_55 : decode cX7_feed 55 = .ok (.aload_n 0, 1) := by decide +kernel
theorem dX7_feed_56 : decode cX7_feed 56 = .ok (.getfield 86, 3) := by decide +kernel
theorem dX7_feed_59 : decode cX7_feed 59 = .ok (.ireturn, 1) := by decide +kernel
theorem dX7_next_0 : decode cX7_next 0 = .ok (.aload_n 0, 1) := by decide +kernel
theorem dX7_next_1 : decode cX7_next 1 = .ok (.getfield 92, 3) := by decide +kernel
theorem dX7_next_4 : decode cX7_next 4 = .ok (.aload_n 0, 1) := by decide +kernel
theorem dX7_next_5 : decode cX7_next 5 = .ok (.getfield 86, 3) := by decide +kernel
theorem dX7_next_8 : decode cX7_next 8 = .ok (.if_icmp .ge 15, 3) := by decide +kernel
theorem dX7_next_11 : decode cX7_next 11 = .ok (.aload_n 0, 1) := by decide +kernel
theorem dX7_next_12 : decode cX7_next 12 = .ok (.getfield 25, 3) := by decide +kernel
theorem dX7_next_15 : decode cX7_next 15 = .ok (.aload_n 0, 1) := by decide +kernel
theorem dX7_next_16 : decode cX7_next 16 = .ok (.getfield 92, 3) := by decide +kernel
theorem dX7_next_19 : decode cX7_next 19 = .ok (.iaload, 1) := by decide +kernel
theorem dX7_next_20 : decode cX7_next 20 = .ok (.goto 4, 3) := by decide +kernel
theorem dX7_next_23 : decode cX7_next 23 = .ok (.iconst (-1), 1) := by decide +kernel
theorem dX7_next_24 : decode cX7_next 24 = .ok (.ireturn, 1) := by decide +kernel
set_option maxRecDepth 20000 in
theorem ggX7_digit_X7_next : GoodIn wsX7_digit wsX7_next := goodIn_r _ [7, 1, 8, 2, 12, 13, 14, 15, 16, 17, 18, 19, 20, 21, 22, 23, 24, 25, 26, 27, 28, 29, 30, 31, 32, 33, 34, 35, 36, 37, 38, 39, 40, 41, 42, 43, 44] (by decide +kernel) (by decide +kernel)
set_option maxRecDepth 20000 in
theorem gX7_digit_X7_next : GoodIn wsX7_digit (wsV RX7 95 RX7 yX7_next wsX7_next) := goodIn_app (goodIn_of _ (by decide +kernel)) ggX7_digit_X7_next
set_option maxRecDepth 20000 in
theorem ggX7_digit_X7_isIn : GoodIn wsX7_digit wsX7_isIn := goodIn_r _ [11] (by decide +kernel) (by decide +kernel)
set_option maxRecDepth 20000 in
theorem gX7_digit_X7_isIn : GoodIn wsX7_digit (va_wsS RX7 99 yX7_isIn wsX7_isIn) := goodIn_app (goodIn_of _ (by decide +kernel)) ggX7_digit_X7_isIn
theorem dX7_digit_0 : decode cX7_digit 0 = .ok (.aload_n 0, 1) := by decide +kernel
theorem dX7_digit_1 : decode cX7_digit 1 = .ok (.invokevirtual 95, 3) := by decide +kernel
theorem dX7_digit_4 : decode cX7_digit 4 = .ok (.bipush 48, 2) := by decide +kernel
theorem dX7_digit_6 : decode cX7_digit 6 = .ok (.bipush 57, 2) := by decide +kernel
theorem dX7_digit_8 : decode cX7_digit 8 = .ok (.invokestatic 99, 3) := by decide +kernel
theorem dX7_digit_11 : decode cX7_digit 11 = .ok (.ifCond .ne 5, 3) := by decide +kernel
theorem dX7_digit_14 : decode cX7_digit 14 = .ok (.iconst (-1), 1) := by decide +kernel
theorem dX7_digit_15 : decode cX7_digit 15 = .ok (.ireturn, 1) := by decide +kernel
theorem dX7_digit_16 : decode cX7_digit 16 = .ok (.aload_n 0, 1) := by decide +kernel
theorem dX7_digit_17 : decode cX7_digit 17 = .ok (.dup, 1) := by decide +kernel
theorem dX7_digit_18 : decode cX7_digit 18 = .ok (.getfield 92, 3) := by decide +kernel
theorem dX7_digit_21 : decode cX7_digit 21 = .ok (.iconst 1, 1) := by decide +kernel
theorem dX7_digit_22 : decode cX7_digit 22 = .ok (.iadd, 1) := by decide +kernel
theorem dX7_digit_23 : decode cX7_digit 23 = .ok (.putfield 92, 3) := by decide +kernel
theorem dX7_digit_26 : decode cX7_digit 26 = .ok (.aload_n 0, 1) := by decide +kernel
theorem dX7_digit_27 : decode cX7_digit 27 = .ok (.getfield 25, 3) := by decide +kernel
theorem dX7_digit_30 : decode cX7_digit 30 = .ok (.aload_n 0, 1) := by decide +kernel
theorem dX7_digit_31 : decode cX7_digit 31 = .ok (.getfield 92, 3) := by decide +kernel
theorem dX7_digit_34 : decode cX7_digit 34 = .ok (.iconst 1, 1) := by decide +kernel
theorem dX7_digit_35 : decode cX7_digit 35 = .ok (.isub, 1) := by decide +kernel
theorem dX7_digit_36 : decode cX7_digit 36 = .ok (.iaload, 1) := by decide +kernel
theorem dX7_digit_37 : decode cX7_digit 37 = .ok (.bipush 48, 2) := by decide +kernel
theorem dX7_digit_39 : decode cX7_digit 39 = .ok (.isub, 1) := by decide +kernel
theorem dX7_digit_40 : decode cX7_digit 40 = .ok (.ireturn, 1) := by decide +kernel
set_option maxRecDepth 20000 in
theorem ggX7_statement_X7_next : GoodIn wsX7_statement wsX7_next := goodIn_r _ [11, 4, 12, 13, 21, 22, 23, 24, 25, 26, 27, 28, 29, 30, 31, 32, 33, 34, 35, 36, 37, 38, 39, 40, 41, 42, 43, 44, 45, 46, 47, 48, 49, 50, 51, 52, 53] (by decide +kernel) (by decide +kernel)
set_option maxRecDepth 20000 in
theorem gX7_statement_X7_next : GoodIn wsX7_statement (wsV RX7 95 RX7 yX7_next wsX7_next) := goodIn_app (goodIn_of _ (by decide +kernel)) ggX7_statement_X7_next
set_option maxRecDepth 20000 in
theorem ggX7_statement_X7_digit : GoodIn wsX7_statement wsX7_digit := goodIn_r _ [17, 4, 13, 7, 8, 9, 10, 11, 12, 18, 19, 20, 21, 22, 23, 24, 25, 26, 27, 28, 29, 30, 31, 32, 33, 34, 35, 36, 37, 38, 39, 40, 41, 42, 43, 44, 45, 46, 47, 48, 49, 50, 51, 52, 53] (by decide +kernel) (by decide +kernel)
set_option maxRecDepth 20000 in
theorem gX7_statement_X7_digit : GoodIn wsX7_statement (wsV RX7 106 RX7 yX7_digit wsX7_digit) := goodIn_app (goodIn_of _ (by decide +kernel)) ggX7_statement_X7_digit
theorem dX7_statement_0 : decode cX7_statement 0 = .ok (.aload_n 0, 1) := by decide +kernel
theorem dX7_statement_1 : decode cX7_statement 1 = .ok (.getfield 103, 3) := by decide +kernel
theorem dX7_statement_4 : decode cX7_statement 4 = .ok (.istore_n 1, 1) := by decide +kernel
theorem dX7_statement_5 : decode cX7_statement 5 = .ok (.aload_n 0, 1) := by decide +kernel
theorem dX7_statement_6 : decode cX7_statement 6 = .ok (.invokevirtual 95, 3) := by decide +kernel
theorem dX7_statement_9 : decode cX7_statement 9 = .ok (.istore_n 2, 1) := by decide +kernel
theorem dX7_statement_10 : decode cX7_statement 10 = .ok (.iload_n 2, 1) := by decide +kernel
theorem dX7_statement_11 : decode cX7_statement 11 = .ok (.bipush 100, 2) := by decide +kernel
theorem dX7_statement_13 : decode cX7_statement 13 = .ok (.if_icmp .eq 17, 3) := by decide +kernel
theorem dX7_statement_16 : decode cX7_statement 16 = .ok (.iload_n 2, 1) := by decide +kernel
theorem dX7_statement_17 : decode cX7_statement 17 = .ok (.bipush 112, 2) := by decide +kernel
theorem dX7_statement_19 : decode cX7_statement 19 = .ok (.if_icmp .eq 11, 3) := by decide +kernel
theorem dX7_statement_22 : decode cX7_statement 22 = .ok (.iload_n 2, 1) := by decide +kernel
theorem dX7_statement_23 : decode cX7_statement 23 = .ok (.bipush 108, 2) := by decide +kernel
theorem dX7_statement_25 : decode cX7_statement 25 = .ok (.if_icmp .eq 5, 3) := by decide +kernel
theorem dX7_statement_28 : decode cX7_statement 28 = .ok (.iconst 0, 1) := by decide +kernel
theorem dX7_statement_29 : decode cX7_statement 29 = .ok (.ireturn, 1) := by decide +kernel
theorem dX7_statement_30 : decode cX7_statement 30 = .ok (.aload_n 0, 1) := by decide +kernel
theorem dX7_statement_31 : decode cX7_statement 31 = .ok (.getfield 28, 3) := by decide +kernel
theorem dX7_statement_34 : decode cX7_statement 34 = .ok (.iload_n 1, 1) := by decide +kernel
theorem dX7_statement_35 : decode cX7_statement 35 = .ok (.iload_n 2, 1) := by decide +kernel
theorem dX7_statement_36 : decode cX7_statement 36 = .ok (.iastore, 1) := by decide +kernel
theorem dX7_statement_37 : decode cX7_statement 37 = .ok (.aload_n 0, 1) := by decide +kernel
theorem dX7_statement_38 : decode cX7_statement 38 = .ok (.getfield 31, 3) := by decide +kernel
theorem dX7_statement_41 : decode cX7_statement 41 = .ok (.iload_n 1, 1) := by decide +kernel
theorem dX7_statement_42 : decode cX7_statement 42 = .ok (.aload_n 0, 1) := by decide +kernel
theorem dX7_statement_43 : decode cX7_statement 43 = .ok (.getfield 92, 3) := by decide +kernel
theorem dX7_statement_46 : decode cX7_statement 46 = .ok (.iastore, 1) := by decide +kernel
theorem dX7_statement_47 : decode cX7_statement 47 = .ok (.aload_n 0, 1) := by decide +kernel
theorem dX7_statement_48 : decode cX7_statement 48 = .ok (.dup, 1) := by decide +kernel
theorem dX7_statement_49 : decode cX7_statement 49 = .ok (.getfield 92, 3) := by decide +kernel
theorem dX7_statement_52 : decode cX7_statement 52 = .ok (.iconst 1, 1) := by decide +kernel
theorem dX7_statement_53 : decode cX7_statement 53 = .ok (.iadd, 1) := by decide +kernel
theorem dX7_statement_54 : decode cX7_statement 54 = .ok (.putfield 92, 3) := by decide +kernel
theorem dX7_statement_57 : decode cX7_statement 57 = .ok (.aload_n 0, 1) := by decide +kernel
theorem dX7_statement_58 : decode cX7_statement 58 = .ok (.getfield 34, 3) := by decide +kernel
theorem dX7_statement_61 : decode cX7_statement 61 = .ok (.iload_n 1, 1) := by decide +kernel
theorem dX7_statement_62 : decode cX7_statement 62 = .ok (.aload_n 0, 1) := by decide +kernel
theorem dX7_statement_63 : decode cX7_statement 63 = .ok (.invokevirtual 106, 3) := by decide +kernel
theorem dX7_statement_66 : decode cX7_statement 66 = .ok (.iastore, 1) := by decide +kernel
theorem dX7_statement_67 : decode cX7_statement 67 = .ok (.aload_n 0, 1) := by decide +kernel
theorem dX7_statement_68 : decode cX7_statement 68 = .ok (.getfield 34, 3) := by decide +kernel
theorem dX7_statement_71 : decode cX7_statement 71 = .ok (.iload_n 1, 1) := by decide +kernel
theorem dX7_statement_72 : decode cX7_statement 72 = .ok (.iaload, 1) := by decide +kernel
theorem dX7_statement_73 : decode cX7_statement 73 = .ok (.ifCond .ge 5, 3) := by decide +kernel
theorem dX7_statement_76 : decode cX7_statement 76 = .ok (.iconst 0, 1) := by decide +kernel
theorem dX7_statement_77 : decode cX7_statement 77 = .ok (.ireturn, 1) := by decide +kernel
theorem dX7_statement_78 : decode cX7_statement 78 = .ok (.aload_n 0, 1) := by decide +kernel
theorem dX7_statement_79 : decode cX7_statement 79 = .ok (.getfield 37, 3) := by decide +kernel
theorem dX7_statement_82 : decode cX7_statement 82 = .ok (.iload_n 1, 1) := by decide +kernel
theorem dX7_statement_83 : decode cX7_statement 83 = .ok (.iload_n 2, 1) := by decide +kernel
theorem dX7_statement_84 : decode cX7_statement 84 = .ok (.bipush 108, 2) := by decide +kernel
theorem dX7_statement_86 : decode cX7_statement 86 = .ok (.if_icmp .ne 7, 3) := by decide +kernel
theorem dX7_statement_89 : decode cX7_statement 89 = .ok (.iconst 0, 1) := by decide +kernel
theorem dX7_statement_90 : decode cX7_statement 90 = .ok (.goto 7, 3) := by decide +kernel
theorem dX7_statement_93 : decode cX7_statement 93 = .ok (.aload_n 0, 1) := by decide +kernel
theorem dX7_statement_94 : decode cX7_statement 94 = .ok (.invokevirtual 106, 3) := by decide +kernel
theorem dX7_statement_97 : decode cX7_statement 97 = .ok (.iastore, 1) := by decide +kernel
theorem dX7_statement_98 : decode cX7_statement 98 = .ok (.aload_n 0, 1) := by decide +kernel
theorem dX7_statement_99 : decode cX7_statement 99 = .ok (.getfield 37, 3) := by decide +kernel
theorem dX7_statement_102 : decode cX7_statement 102 = .ok (.iload_n 1, 1) := by decide +kernel
theorem dX7_statement_103 : decode cX7_statement 103 = .ok (.iaload, 1) := by decide +kernel
theorem dX7_statement_104 : decode cX7_statement 104 = .ok (.ifCond .lt 12, 3) := by decide +kernel
theorem dX7_statement_107 : decode cX7_statement 107 = .ok (.aload_n 0, 1) := by decide +kernel
theorem dX7_statement_108 : decode cX7_statement 108 = .ok (.invokevirtual 95, 3) := by decide +kernel
theorem dX7_statement_111 : decode cX7_statement 111 = .ok (.bipush 59, 2) := by decide +kernel
theorem dX7_statement_113 : decode cX7_statement 113 = .ok (.if_icmp .eq 5, 3) := by decide +kernel
theorem dX7_statement_116 : decode cX7_statement 116 = .ok (.iconst 0, 1) := by decide +kernel
theorem dX7_statement_117 : decode cX7_statement 117 = .ok (.ireturn, 1) := by decide +kernel
theorem dX7_statement_118 : decode cX7_statement 118 = .ok (.aload_n 0, 1) := by decide +kernel
theorem dX7_statement_119 : decode cX7_statement 119 = .ok (.dup, 1) := by decide +kernel
theorem dX7_statement_120 : decode cX7_statement 120 = .ok (.getfield 92, 3) := by decide +kernel
theorem dX7_statement_123 : decode cX7_statement 123 = .ok (.iconst 1, 1) := by decide +kernel
theorem dX7_statement_124 : decode cX7_statement 124 = .ok (.iadd, 1) := by decide +kernel
theorem dX7_statement_125 : decode cX7_statement 125 = .ok (.putfield 92, 3) := by decide +kernel
theorem dX7_statement_128 : decode cX7_statement 128 = .ok (.iconst 1, 1) := by decide +kernel
theorem dX7_statement_129 : decode cX7_statement 129 = .ok (.ireturn, 1) := by decide +kernel
set_option maxRecDepth 20000 in
theorem ggX7_comes_X7_areTwo : GoodIn wsX7_comes wsX7_areTwo := goodIn_r _ [14, 15, 16, 17, 13, 18, 5, 23, 24, 25, 26, 27, 28, 29, 30, 31, 32, 33, 34, 35, 36, 37, 38, 39, 40, 41, 42, 43, 44, 45, 46, 47, 48, 49, 50, 51, 52, 53, 54, 55] (by decide +kernel) (by decide +kernel)
set_option maxRecDepth 20000 in
theorem gX7_comes_X7_areTwo : GoodIn wsX7_comes (wsV RX7 112 RX7 yX7_areTwo wsX7_areTwo) := goodIn_app (goodIn_of _ (by decide +kernel)) ggX7_comes_X7_areTwo
set_option maxRecDepth 20000 in
theorem ggX7_comes_X7_joins : GoodIn wsX7_comes wsX7_joins := goodIn_r _ [22, 9, 23, 24, 25, 26, 27, 28, 29, 30, 31, 32, 33, 34, 35, 36, 37, 38, 39, 40, 41, 42, 43, 44, 45, 46, 47, 48, 49, 50, 51, 52, 53, 54, 55] (by decide +kernel) (by decide +kernel)
set_option maxRecDepth 20000 in
theorem gX7_comes_X7_joins : GoodIn wsX7_comes (wsV RX7 116 RX7 yX7_joins wsX7_joins) := goodIn_app (goodIn_of _ (by decide +kernel)) ggX7_comes_X7_joins
theorem dX7_comes_0 : decode cX7_comes 0 = .ok (.aload_n 0, 1) := by decide +kernel
theorem dX7_comes_1 : decode cX7_comes 1 = .ok (.getfield 28, 3) := by decide +kernel
theorem dX7_comes_4 : decode cX7_comes 4 = .ok (.iload_n 1, 1) := by decide +kernel
theorem dX7_comes_5 : decode cX7_comes 5 = .ok (.iaload, 1) := by decide +kernel
theorem dX7_comes_6 : decode cX7_comes 6 = .ok (.bipush 108, 2) := by decide +kernel
theorem dX7_comes_8 : decode cX7_comes 8 = .ok (.if_icmp .ne 29, 3) := by decide +kernel
theorem dX7_comes_11 : decode cX7_comes 11 = .ok (.aload_n 0, 1) := by decide +kernel
theorem dX7_comes_12 : decode cX7_comes 12 = .ok (.aload_n 0, 1) := by decide +kernel
theorem dX7_comes_13 : decode cX7_comes 13 = .ok (.getfield 34, 3) := by decide +kernel
theorem dX7_comes_16 : decode cX7_comes 16 = .ok (.iload_n 1, 1) := by decide +kernel
theorem dX7_comes_17 : decode cX7_comes 17 = .ok (.iaload, 1) := by decide +kernel
theorem dX7_comes_18 : decode cX7_comes 18 = .ok (.putfield 109, 3) := by decide +kernel
theorem dX7_comes_21 : decode cX7_comes 21 = .ok (.aload_n 0, 1) := by decide +kernel
theorem dX7_comes_22 : decode cX7_comes 22 = .ok (.getfield 34, 3) := by decide +kernel
theorem dX7_comes_25 : decode cX7_comes 25 = .ok (.iload_n 1, 1) := by decide +kernel
theorem dX7_comes_26 : decode cX7_comes 26 = .ok (.iaload, 1) := by decide +kernel
theorem dX7_comes_27 : decode cX7_comes 27 = .ok (.iconst 3, 1) := by decide +kernel
theorem dX7_comes_28 : decode cX7_comes 28 = .ok (.if_icmp .ge 7, 3) := by decide +kernel
theorem dX7_comes_31 : decode cX7_comes 31 = .ok (.iconst 1, 1) := by decide +kernel
theorem dX7_comes_32 : decode cX7_comes 32 = .ok (.goto 4, 3) := by decide +kernel
theorem dX7_comes_35 : decode cX7_comes 35 = .ok (.iconst 0, 1) := by decide +kernel
theorem dX7_comes_36 : decode cX7_comes 36 = .ok (.ireturn, 1) := by decide +kernel
theorem dX7_comes_37 : decode cX7_comes 37 = .ok (.aload_n 0, 1) := by decide +kernel
theorem dX7_comes_38 : decode cX7_comes 38 = .ok (.getfield 28, 3) := by decide +kernel
theorem dX7_comes_41 : decode cX7_comes 41 = .ok (.iload_n 1, 1) := by decide +kernel
theorem dX7_comes_42 : decode cX7_comes 42 = .ok (.iaload, 1) := by decide +kernel
theorem dX7_comes_43 : decode cX7_comes 43 = .ok (.bipush 112, 2) := by decide +kernel
theorem dX7_comes_45 : decode cX7_comes 45 = .ok (.if_icmp .ne 42, 3) := by decide +kernel
theorem dX7_comes_48 : decode cX7_comes 48 = .ok (.aload_n 0, 1) := by decide +kernel
theorem dX7_comes_49 : decode cX7_comes 49 = .ok (.aload_n 0, 1) := by decide +kernel
theorem dX7_comes_50 : decode cX7_comes 50 = .ok (.getfield 34, 3) := by decide +kernel
theorem dX7_comes_53 : decode cX7_comes 53 = .ok (.iload_n 1, 1) := by decide +kernel
theorem dX7_comes_54 : decode cX7_comes 54 = .ok (.iaload, 1) := by decide +kernel
theorem dX7_comes_55 : decode cX7_comes 55 = .ok (.aload_n 0, 1) := by decide +kernel
theorem dX7_comes_56 : decode cX7_comes 56 = .ok (.getfield 37, 3) := by decide +kernel
theorem dX7_comes_59 : decode cX7_comes 59 = .ok (.iload_n 1, 1) := by decide +kernel
theorem dX7_comes_60 : decode cX7_comes 60 = .ok (.iaload, 1) := by decide +kernel
theorem dX7_comes_61 : decode cX7_comes 61 = .ok (.invokevirtual 112, 3) := by decide +kernel
theorem dX7_comes_64 : decode cX7_comes 64 = .ok (.ifCond .ne 5, 3) := by decide +kernel
theorem dX7_comes_67 : decode cX7_comes 67 = .ok (.iconst 0, 1) := by decide +kernel
theorem dX7_comes_68 : decode cX7_comes 68 = .ok (.ireturn, 1) := by decide +kernel
theorem dX7_comes_69 : decode cX7_comes 69 = .ok (.aload_n 0, 1) := by decide +kernel
theorem dX7_comes_70 : decode cX7_comes 70 = .ok (.aload_n 0, 1) := by decide +kernel
theorem dX7_comes_71 : decode cX7_comes 71 = .ok (.getfield 34, 3) := by decide +kernel
theorem dX7_comes_74 : decode cX7_comes 74 = .ok (.iload_n 1, 1) := by decide +kernel
theorem dX7_comes_75 : decode cX7_comes 75 = .ok (.iaload, 1) := by decide +kernel
theorem dX7_comes_76 : decode cX7_comes 76 = .ok (.aload_n 0, 1) := by decide +kernel
theorem dX7_comes_77 : decode cX7_comes 77 = .ok (.getfield 37, 3) := by decide +kernel
theorem dX7_comes_80 : decode cX7_comes 80 = .ok (.iload_n 1, 1) := by decide +kernel
theorem dX7_comes_81 : decode cX7_comes 81 = .ok (.iaload, 1) := by decide +kernel
theorem dX7_comes_82 : decode cX7_comes 82 = .ok (.invokevirtual 116, 3) := by decide +kernel
theorem dX7_comes_85 : decode cX7_comes 85 = .ok (.iconst 1, 1) := by decide +kernel
theorem dX7_comes_86 : decode cX7_comes 86 = .ok (.ireturn, 1) := by decide +kernel
theorem dX7_comes_87 : decode cX7_comes 87 = .ok (.aload_n 0, 1) := by decide +kernel
theorem dX7_comes_88 : decode cX7_comes 88 = .ok (.getfield 34, 3) := by decide +kernel
theorem dX7_comes_91 : decode cX7_comes 91 = .ok (.iload_n 1, 1) := by decide +kernel
theorem dX7_comes_92 : decode cX7_comes 92 = .ok (.iaload, 1) := by decide +kernel
theorem dX7_comes_93 : decode cX7_comes 93 = .ok (.iconst 5, 1) := by decide +kernel
theorem dX7_comes_94 : decode cX7_comes 94 = .ok (.if_icmp .gt 12, 3) := by decide +kernel
theorem dX7_comes_97 : decode cX7_comes 97 = .ok (.aload_n 0, 1) := by decide +kernel
theorem dX7_comes_98 : decode cX7_comes 98 = .ok (.getfield 70, 3) := by decide +kernel
theorem dX7_comes_101 : decode cX7_comes 101 = .ok (.bipush 8, 2) := by decide +kernel
theorem dX7_comes_103 : decode cX7_comes 103 = .ok (.if_icmp .ne 5, 3) := by decide +kernel
theorem dX7_comes_106 : decode cX7_comes 106 = .ok (.iconst 0, 1) := by decide +kernel
theorem dX7_comes_107 : decode cX7_comes 107 = .ok (.ireturn, 1) := by decide +kernel
theorem dX7_comes_108 : decode cX7_comes 108 = .ok (.aload_n 0, 1) := by decide +kernel
theorem dX7_comes_109 : decode cX7_comes 109 = .ok (.getfield 13, 3) := by decide +kernel
theorem dX7_comes_112 : decode cX7_comes 112 = .ok (.aload_n 0, 1) := by decide +kernel
theorem dX7_comes_113 : decode cX7_comes 113 = .ok (.getfield 70, 3) := by decide +kernel
theorem dX7_comes_116 : decode cX7_comes 116 = .ok (.aload_n 0, 1) := by decide +kernel
theorem dX7_comes_117 : decode cX7_comes 117 = .ok (.getfield 34, 3) := by decide +kernel
theorem dX7_comes_120 : decode cX7_comes 120 = .ok (.iload_n 1, 1) := by decide +kernel
theorem dX7_comes_121 : decode cX7_comes 121 = .ok (.iaload, 1) := by decide +kernel
theorem dX7_comes_122 : decode cX7_comes 122 = .ok (.iastore, 1) := by decide +kernel
theorem dX7_comes_123 : decode cX7_comes 123 = .ok (.aload_n 0, 1) := by decide +kernel
theorem dX7_comes_124 : decode cX7_comes 124 = .ok (.getfield 16, 3) := by decide +kernel
theorem dX7_comes_127 : decode cX7_comes 127 = .ok (.aload_n 0, 1) := by decide +kernel
theorem dX7_comes_128 : decode cX7_comes 128 = .ok (.getfield 70, 3) := by decide +kernel
theorem dX7_comes_131 : decode cX7_comes 131 = .ok (.aload_n 0, 1) := by decide +kernel
theorem dX7_comes_132 : decode cX7_comes 132 = .ok (.getfield 37, 3) := by decide +kernel
theorem dX7_comes_135 : decode cX7_comes 135 = .ok (.iload_n 1, 1) := by decide +kernel
theorem dX7_comes_136 : decode cX7_comes 136 = .ok (.iaload, 1) := by decide +kernel
theorem dX7_comes_137 : decode cX7_comes 137 = .ok (.iastore, 1) := by decide +kernel
theorem dX7_comes_138 : decode cX7_comes 138 = .ok (.aload_n 0, 1) := by decide +kernel
theorem dX7_comes_139 : decode cX7_comes 139 = .ok (.getfield 19, 3) := by decide +kernel
theorem dX7_comes_142 : decode cX7_comes 142 = .ok (.aload_n 0, 1) := by decide +kernel
theorem dX7_comes_143 : decode cX7_comes 143 = .ok (.getfield 70, 3) := by decide +kernel
theorem dX7_comes_146 : decode cX7_comes 146 = .ok (.iconst 0, 1) := by decide +kernel
theorem dX7_comes_147 : decode cX7_comes 147 = .ok (.iastore, 1) := by decide +kernel
theorem dX7_comes_148 : decode cX7_comes 148 = .ok (.aload_n 0, 1) := by decide +kernel
theorem dX7_comes_149 : decode cX7_comes 149 = .ok (.getfield 22, 3) := by decide +kernel
theorem dX7_comes_152 : decode cX7_comes 152 = .ok (.aload_n 0, 1) := by decide +kernel
theorem dX7_comes_153 : decode cX7_comes 153 = .ok (.getfield 70, 3) := by decide +kernel
theorem dX7_comes_156 : decode cX7_comes 156 = .ok (.iconst 0, 1) := by decide +kernel
theorem dX7_comes_157 : decode cX7_comes 157 = .ok (.iastore, 1) := by decide +kernel
theorem dX7_comes_158 : decode cX7_comes 158 = .ok (.aload_n 0, 1) := by decide +kernel
theorem dX7_comes_159 : decode cX7_comes 159 = .ok (.dup, 1) := by decide +kernel
theorem dX7_comes_160 : decode cX7_comes 160 = .ok (.getfield 70, 3) := by decide +kernel
theorem dX7_comes_163 : decode cX7_comes 163 = .ok (.iconst 1, 1) := by decide +kernel
theorem dX7_comes_164 : decode cX7_comes 164 = .ok (.iadd, 1) := by decide +kernel
theorem dX7_comes_165 : decode cX7_comes 165 = .ok (.putfield 70, 3) := by decide +kernel
theorem dX7_comes_168 : decode cX7_comes 168 = .ok (.iconst 1, 1) := by decide +kernel
theorem dX7_comes_169 : decode cX7_comes 169 = .ok (.ireturn, 1) := by decide +kernel
set_option maxRecDepth 20000 in
theorem ggX7_ball_X7_statement : GoodIn wsX7_ball wsX7_statement := goodIn_r _ [9, 2, 10, 4, 1, 11, 12, 13, 14, 15, 8, 16, 3, 17, 18, 19, 20, 21, 22, 23, 24, 62, 63, 64, 65, 66, 67, 68, 69, 70, 71, 72, 73, 74, 75, 76, 77, 78, 79, 80, 81, 82, 83, 84, 85, 86, 87, 88, 89, 90, 91, 92, 93, 94] (by decide +kernel) (by decide +kernel)
set_option maxRecDepth 20000 in
theorem gX7_ball_X7_statement : GoodIn wsX7_ball (wsV RX7 120 RX7 yX7_statement wsX7_statement) := goodIn_app (goodIn_of _ (by decide +kernel)) ggX7_ball_X7_statement
set_option maxRecDepth 20000 in
theorem ggX7_ball_X7_passesAll : GoodIn wsX7_ball wsX7_passesAll := goodIn_r _ [28, 29, 30, 31, 32, 33, 34, 35, 36, 37, 38, 39, 8, 40, 41, 42, 43, 44, 45, 62, 63, 64, 65, 66, 67, 68, 69, 70, 71, 72, 73, 74, 75, 76, 77, 78, 79, 80, 81, 82, 83, 84, 85, 86, 87, 88, 89, 90, 91, 92, 93, 94] (by decide +kernel) (by decide +kernel)
set_option maxRecDepth 20000 in
theorem gX7_ball_X7_passesAll : GoodIn wsX7_ball (wsV RX7 124 RX7 yX7_passesAll wsX7_passesAll) := goodIn_app (goodIn_of _ (by decide +kernel)) ggX7_ball_X7_passesAll
set_option maxRecDepth 20000 in
theorem ggX7_ball_X7_comes : GoodIn wsX7_ball wsX7_comes := goodIn_r _ [49, 10, 11, 36, 12, 35, 31, 32, 33, 34, 50, 51, 52, 8, 53, 54, 55, 56, 57, 58, 59, 60, 61, 62, 63, 64, 65, 66, 67, 68, 69, 70, 71, 72, 73, 74, 75, 76, 77, 78, 79, 80, 81, 82, 83, 84, 85, 86, 87, 88, 89, 90, 91, 92, 93, 94] (by decide +kernel) (by decide +kernel)
set_option maxRecDepth 20000 in
theorem gX7_ball_X7_comes : GoodIn wsX7_ball (wsV RX7 128 RX7 yX7_comes wsX7_comes) := goodIn_app (goodIn_of _ (by decide +kernel)) ggX7_ball_X7_comes
theorem dX7_ball_0 : decode cX7_ball 0 = .ok (.aload_n 0, 1) := by decide +kernel
theorem dX7_ball_1 : decode cX7_ball 1 = .ok (.iconst 0, 1) := by decide +kernel
theorem dX7_ball_2 : decode cX7_ball 2 = .ok (.putfield 92, 3) := by decide +kernel
theorem dX7_ball_5 : decode cX7_ball 5 = .ok (.aload_n 0, 1) := by decide +kernel
theorem dX7_ball_6 : decode cX7_ball 6 = .ok (.iconst 0, 1) := by decide +kernel
theorem dX7_ball_7 : decode cX7_ball 7 = .ok (.putfield 103, 3) := by decide +kernel
theorem dX7_ball_10 : decode cX7_ball 10 = .ok (.iconst 1, 1) := by decide +kernel
theorem dX7_ball_11 : decode cX7_ball 11 = .ok (.istore_n 1, 1) := by decide +kernel
theorem dX7_ball_12 : decode cX7_ball 12 = .ok (.iload_n 1, 1) := by decide +kernel
theorem dX7_ball_13 : decode cX7_ball 13 = .ok (.ifCond .eq 47, 3) := by decide +kernel
theorem dX7_ball_16 : decode cX7_ball 16 = .ok (.aload_n 0, 1) := by decide +kernel
theorem dX7_ball_17 : decode cX7_ball 17 = .ok (.getfield 92, 3) := by decide +kernel
theorem dX7_ball_20 : decode cX7_ball 20 = .ok (.aload_n 0, 1) := by decide +kernel
theorem dX7_ball_21 : decode cX7_ball 21 = .ok (.getfield 86, 3) := by decide +kernel
theorem dX7_ball_24 : decode cX7_ball 24 = .ok (.if_icmp .lt 10, 3) := by decide +kernel
theorem dX7_ball_27 : decode cX7_ball 27 = .ok (.aload_n 0, 1) := by decide +kernel
theorem dX7_ball_28 : decode cX7_ball 28 = .ok (.getfield 103, 3) := by decide +kernel
theorem dX7_ball_31 : decode cX7_ball 31 = .ok (.ifCond .ne 29, 3) := by decide +kernel
theorem dX7_ball_34 : decode cX7_ball 34 = .ok (.aload_n 0, 1) := by decide +kernel
theorem dX7_ball_35 : decode cX7_ball 35 = .ok (.invokevirtual 120, 3) := by decide +kernel
theorem dX7_ball_38 : decode cX7_ball 38 = .ok (.istore_n 1, 1) := by decide +kernel
theorem dX7_ball_39 : decode cX7_ball 39 = .ok (.aload_n 0, 1) := by decide +kernel
theorem dX7_ball_40 : decode cX7_ball 40 = .ok (.dup, 1) := by decide +kernel
theorem dX7_ball_41 : decode cX7_ball 41 = .ok (.getfield 103, 3) := by decide +kernel
theorem dX7_ball_44 : decode cX7_ball 44 = .ok (.iload_n 1, 1) := by decide +kernel
theorem dX7_ball_45 : decode cX7_ball 45 = .ok (.ifCond .eq 7, 3) := by decide +kernel
theorem dX7_ball_48 : decode cX7_ball 48 = .ok (.iconst 1, 1) := by decide +kernel
theorem dX7_ball_49 : decode cX7_ball 49 = .ok (.goto 4, 3) := by decide +kernel
theorem dX7_ball_52 : decode cX7_ball 52 = .ok (.iconst 0, 1) := by decide +kernel
theorem dX7_ball_53 : decode cX7_ball 53 = .ok (.iadd, 1) := by decide +kernel
theorem dX7_ball_54 : decode cX7_ball 54 = .ok (.putfield 103, 3) := by decide +kernel
theorem dX7_ball_57 : decode cX7_ball 57 = .ok (.goto (-45), 3) := by decide +kernel
theorem dX7_ball_60 : decode cX7_ball 60 = .ok (.aload_n 0, 1) := by decide +kernel
theorem dX7_ball_61 : decode cX7_ball 61 = .ok (.iconst 0, 1) := by decide +kernel
theorem dX7_ball_62 : decode cX7_ball 62 = .ok (.putfield 86, 3) := by decide +kernel
theorem dX7_ball_65 : decode cX7_ball 65 = .ok (.iload_n 1, 1) := by decide +kernel
theorem dX7_ball_66 : decode cX7_ball 66 = .ok (.ifCond .ne 12, 3) := by decide +kernel
theorem dX7_ball_69 : decode cX7_ball 69 = .ok (.sipush (-1000), 3) := by decide +kernel
theorem dX7_ball_72 : decode cX7_ball 72 = .ok (.aload_n 0, 1) := by decide +kernel
theorem dX7_ball_73 : decode cX7_ball 73 = .ok (.getfield 92, 3) := by decide +kernel
theorem dX7_ball_76 : decode cX7_ball 76 = .ok (.isub, 1) := by decide +kernel
