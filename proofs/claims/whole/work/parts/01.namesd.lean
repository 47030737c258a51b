theorem dX7_ball_77 : decode cX7_ball 77 = .ok (.ireturn, 1) := by decide +kernel
theorem dX7_ball_78 : decode cX7_ball 78 = .ok (.aload_n 0, 1) := by decide +kernel
theorem dX7_ball_79 : decode cX7_ball 79 = .ok (.iconst 1, 1) := by decide +kernel
theorem dX7_ball_80 : decode cX7_ball 80 = .ok (.iconst 1, 1) := by decide +kernel
theorem dX7_ball_81 : decode cX7_ball 81 = .ok (.invokevirtual 124, 3) := by decide +kernel
theorem dX7_ball_84 : decode cX7_ball 84 = .ok (.iconst 0, 1) := by decide +kernel
theorem dX7_ball_85 : decode cX7_ball 85 = .ok (.istore_n 2, 1) := by decide +kernel
theorem dX7_ball_86 : decode cX7_ball 86 = .ok (.iload_n 2, 1) := by decide +kernel
theorem dX7_ball_87 : decode cX7_ball 87 = .ok (.aload_n 0, 1) := by decide +kernel
theorem dX7_ball_88 : decode cX7_ball 88 = .ok (.getfield 103, 3) := by decide +kernel
theorem dX7_ball_91 : decode cX7_ball 91 = .ok (.if_icmp .ge 37, 3) := by decide +kernel
theorem dX7_ball_94 : decode cX7_ball 94 = .ok (.aload_n 0, 1) := by decide +kernel
theorem dX7_ball_95 : decode cX7_ball 95 = .ok (.iload_n 2, 1) := by decide +kernel
theorem dX7_ball_96 : decode cX7_ball 96 = .ok (.invokevirtual 128, 3) := by decide +kernel
theorem dX7_ball_99 : decode cX7_ball 99 = .ok (.ifCond .eq 6, 3) := by decide +kernel
theorem dX7_ball_102 : decode cX7_ball 102 = .ok (.goto 20, 3) := by decide +kernel
theorem dX7_ball_105 : decode cX7_ball 105 = .ok (.aload_n 0, 1) := by decide +kernel
theorem dX7_ball_106 : decode cX7_ball 106 = .ok (.iconst 1, 1) := by decide +kernel
theorem dX7_ball_107 : decode cX7_ball 107 = .ok (.iconst 0, 1) := by decide +kernel
theorem dX7_ball_108 : decode cX7_ball 108 = .ok (.invokevirtual 124, 3) := by decide +kernel
theorem dX7_ball_111 : decode cX7_ball 111 = .ok (.sipush (-2000), 3) := by decide +kernel
theorem dX7_ball_114 : decode cX7_ball 114 = .ok (.aload_n 0, 1) := by decide +kernel
theorem dX7_ball_115 : decode cX7_ball 115 = .ok (.getfield 31, 3) := by decide +kernel
theorem dX7_ball_118 : decode cX7_ball 118 = .ok (.iload_n 2, 1) := by decide +kernel
theorem dX7_ball_119 : decode cX7_ball 119 = .ok (.iaload, 1) := by decide +kernel
theorem dX7_ball_120 : decode cX7_ball 120 = .ok (.isub, 1) := by decide +kernel
theorem dX7_ball_121 : decode cX7_ball 121 = .ok (.ireturn, 1) := by decide +kernel
theorem dX7_ball_122 : decode cX7_ball 122 = .ok (.iinc 2 1, 3) := by decide +kernel
theorem dX7_ball_125 : decode cX7_ball 125 = .ok (.goto (-39), 3) := by decide +kernel
theorem dX7_ball_128 : decode cX7_ball 128 = .ok (.aload_n 0, 1) := by decide +kernel
theorem dX7_ball_129 : decode cX7_ball 129 = .ok (.getfield 103, 3) := by decide +kernel
theorem dX7_ball_132 : decode cX7_ball 132 = .ok (.ireturn, 1) := by decide +kernel
theorem dX7_passes_0 : decode cX7_passes 0 = .ok (.iconst 0, 1) := by decide +kernel
theorem dX7_passes_1 : decode cX7_passes 1 = .ok (.istore_n 2, 1) := by decide +kernel
theorem dX7_passes_2 : decode cX7_passes 2 = .ok (.iload_n 2, 1) := by decide +kernel
theorem dX7_passes_3 : decode cX7_passes 3 = .ok (.aload_n 1, 1) := by decide +kernel
theorem dX7_passes_4 : decode cX7_passes 4 = .ok (.arraylength, 1) := by decide +kernel
theorem dX7_passes_5 : decode cX7_passes 5 = .ok (.if_icmp .ge 53, 3) := by decide +kernel
theorem dX7_passes_8 : decode cX7_passes 8 = .ok (.aload_n 0, 1) := by decide +kernel
theorem dX7_passes_9 : decode cX7_passes 9 = .ok (.getfield 131, 3) := by decide +kernel
theorem dX7_passes_12 : decode cX7_passes 12 = .ok (.ifCond .eq 18, 3) := by decide +kernel
theorem dX7_passes_15 : decode cX7_passes 15 = .ok (.aload_n 0, 1) := by decide +kernel
theorem dX7_passes_16 : decode cX7_passes 16 = .ok (.getfield 40, 3) := by decide +kernel
theorem dX7_passes_19 : decode cX7_passes 19 = .ok (.aload_n 0, 1) := by decide +kernel
theorem dX7_passes_20 : decode cX7_passes 20 = .ok (.getfield 135, 3) := by decide +kernel
theorem dX7_passes_23 : decode cX7_passes 23 = .ok (.aload_n 1, 1) := by decide +kernel
theorem dX7_passes_24 : decode cX7_passes 24 = .ok (.iload_n 2, 1) := by decide +kernel
theorem dX7_passes_25 : decode cX7_passes 25 = .ok (.iaload, 1) := by decide +kernel
theorem dX7_passes_26 : decode cX7_passes 26 = .ok (.iastore, 1) := by decide +kernel
theorem dX7_passes_27 : decode cX7_passes 27 = .ok (.goto 15, 3) := by decide +kernel
theorem dX7_passes_30 : decode cX7_passes 30 = .ok (.aload_n 1, 1) := by decide +kernel
theorem dX7_passes_31 : decode cX7_passes 31 = .ok (.iload_n 2, 1) := by decide +kernel
theorem dX7_passes_32 : decode cX7_passes 32 = .ok (.aload_n 0, 1) := by decide +kernel
theorem dX7_passes_33 : decode cX7_passes 33 = .ok (.getfield 40, 3) := by decide +kernel
theorem dX7_passes_36 : decode cX7_passes 36 = .ok (.aload_n 0, 1) := by decide +kernel
theorem dX7_passes_37 : decode cX7_passes 37 = .ok (.getfield 135, 3) := by decide +kernel
theorem dX7_passes_40 : decode cX7_passes 40 = .ok (.iaload, 1) := by decide +kernel
theorem dX7_passes_41 : decode cX7_passes 41 = .ok (.iastore, 1) := by decide +kernel
theorem dX7_passes_42 : decode cX7_passes 42 = .ok (.aload_n 0, 1) := by decide +kernel
theorem dX7_passes_43 : decode cX7_passes 43 = .ok (.dup, 1) := by decide +kernel
theorem dX7_passes_44 : decode cX7_passes 44 = .ok (.getfield 135, 3) := by decide +kernel
theorem dX7_passes_47 : decode cX7_passes 47 = .ok (.iconst 1, 1) := by decide +kernel
theorem dX7_passes_48 : decode cX7_passes 48 = .ok (.iadd, 1) := by decide +kernel
theorem dX7_passes_49 : decode cX7_passes 49 = .ok (.putfield 135, 3) := by decide +kernel
theorem dX7_passes_52 : decode cX7_passes 52 = .ok (.iinc 2 1, 3) := by decide +kernel
theorem dX7_passes_55 : decode cX7_passes 55 = .ok (.goto (-53), 3) := by decide +kernel
theorem dX7_passes_58 : decode cX7_passes 58 = .ok (.return_, 1) := by decide +kernel
theorem dX7_passOne_0 : decode cX7_passOne 0 = .ok (.aload_n 0, 1) := by decide +kernel
theorem dX7_passOne_1 : decode cX7_passOne 1 = .ok (.getfield 131, 3) := by decide +kernel
theorem dX7_passOne_4 : decode cX7_passOne 4 = .ok (.ifCond .eq 7, 3) := by decide +kernel
theorem dX7_passOne_7 : decode cX7_passOne 7 = .ok (.iload_n 1, 1) := by decide +kernel
theorem dX7_passOne_8 : decode cX7_passOne 8 = .ok (.goto 12, 3) := by decide +kernel
theorem dX7_passOne_11 : decode cX7_passOne 11 = .ok (.aload_n 0, 1) := by decide +kernel
theorem dX7_passOne_12 : decode cX7_passOne 12 = .ok (.getfield 40, 3) := by decide +kernel
theorem dX7_passOne_15 : decode cX7_passOne 15 = .ok (.aload_n 0, 1) := by decide +kernel
theorem dX7_passOne_16 : decode cX7_passOne 16 = .ok (.getfield 135, 3) := by decide +kernel
theorem dX7_passOne_19 : decode cX7_passOne 19 = .ok (.iaload, 1) := by decide +kernel
theorem dX7_passOne_20 : decode cX7_passOne 20 = .ok (.istore_n 2, 1) := by decide +kernel
theorem dX7_passOne_21 : decode cX7_passOne 21 = .ok (.aload_n 0, 1) := by decide +kernel
theorem dX7_passOne_22 : decode cX7_passOne 22 = .ok (.getfield 131, 3) := by decide +kernel
theorem dX7_passOne_25 : decode cX7_passOne 25 = .ok (.ifCond .eq 13, 3) := by decide +kernel
theorem dX7_passOne_28 : decode cX7_passOne 28 = .ok (.aload_n 0, 1) := by decide +kernel
theorem dX7_passOne_29 : decode cX7_passOne 29 = .ok (.getfield 40, 3) := by decide +kernel
theorem dX7_passOne_32 : decode cX7_passOne 32 = .ok (.aload_n 0, 1) := by decide +kernel
theorem dX7_passOne_33 : decode cX7_passOne 33 = .ok (.getfield 135, 3) := by decide +kernel
theorem dX7_passOne_36 : decode cX7_passOne 36 = .ok (.iload_n 1, 1) := by decide +kernel
theorem dX7_passOne_37 : decode cX7_passOne 37 = .ok (.iastore, 1) := by decide +kernel
theorem dX7_passOne_38 : decode cX7_passOne 38 = .ok (.aload_n 0, 1) := by decide +kernel
theorem dX7_passOne_39 : decode cX7_passOne 39 = .ok (.dup, 1) := by decide +kernel
theorem dX7_passOne_40 : decode cX7_passOne 40 = .ok (.getfield 135, 3) := by decide +kernel
theorem dX7_passOne_43 : decode cX7_passOne 43 = .ok (.iconst 1, 1) := by decide +kernel
theorem dX7_passOne_44 : decode cX7_passOne 44 = .ok (.iadd, 1) := by decide +kernel
theorem dX7_passOne_45 : decode cX7_passOne 45 = .ok (.putfield 135, 3) := by decide +kernel
theorem dX7_passOne_48 : decode cX7_passOne 48 = .ok (.iload_n 2, 1) := by decide +kernel
theorem dX7_passOne_49 : decode cX7_passOne 49 = .ok (.ireturn, 1) := by decide +kernel
set_option maxRecDepth 20000 in
theorem ggX7_passesAll_X7_passes : GoodIn wsX7_passesAll wsX7_passes := goodIn_r _ [13, 2, 14, 1, 19, 20, 21, 22, 23, 24, 25, 26, 27, 28, 29, 30, 31, 32, 33, 34, 35, 36, 37, 38, 39, 40, 41, 42, 43, 44, 45, 46, 47, 48, 49, 50, 51] (by decide +kernel) (by decide +kernel)
set_option maxRecDepth 20000 in
theorem gX7_passesAll_X7_passes : GoodIn wsX7_passesAll (wsV RX7 138 RX7 yX7_passes wsX7_passes) := goodIn_app (goodIn_of _ (by decide +kernel)) ggX7_passesAll_X7_passes
set_option maxRecDepth 20000 in
theorem ggX7_passesAll_X7_passOne : GoodIn wsX7_passesAll wsX7_passOne := goodIn_r _ [18, 2, 14, 1, 19, 20, 21, 22, 23, 24, 25, 26, 27, 28, 29, 30, 31, 32, 33, 34, 35, 36, 37, 38, 39, 40, 41, 42, 43, 44, 45, 46, 47, 48, 49, 50, 51] (by decide +kernel) (by decide +kernel)
set_option maxRecDepth 20000 in
theorem gX7_passesAll_X7_passOne : GoodIn wsX7_passesAll (wsV RX7 142 RX7 yX7_passOne wsX7_passOne) := goodIn_app (goodIn_of _ (by decide +kernel)) ggX7_passesAll_X7_passOne
theorem dX7_passesAll_0 : decode cX7_passesAll 0 = .ok (.aload_n 0, 1) := by decide +kernel
theorem dX7_passesAll_1 : decode cX7_passesAll 1 = .ok (.bipush 40, 2) := by decide +kernel
theorem dX7_passesAll_3 : decode cX7_passesAll 3 = .ok (.iload_n 1, 1) := by decide +kernel
theorem dX7_passesAll_4 : decode cX7_passesAll 4 = .ok (.imul, 1) := by decide +kernel
theorem dX7_passesAll_5 : decode cX7_passesAll 5 = .ok (.putfield 135, 3) := by decide +kernel
theorem dX7_passesAll_8 : decode cX7_passesAll 8 = .ok (.aload_n 0, 1) := by decide +kernel
theorem dX7_passesAll_9 : decode cX7_passesAll 9 = .ok (.iload_n 2, 1) := by decide +kernel
theorem dX7_passesAll_10 : decode cX7_passesAll 10 = .ok (.putfield 131, 3) := by decide +kernel
theorem dX7_passesAll_13 : decode cX7_passesAll 13 = .ok (.aload_n 0, 1) := by decide +kernel
theorem dX7_passesAll_14 : decode cX7_passesAll 14 = .ok (.aload_n 0, 1) := by decide +kernel
theorem dX7_passesAll_15 : decode cX7_passesAll 15 = .ok (.getfield 13, 3) := by decide +kernel
theorem dX7_passesAll_18 : decode cX7_passesAll 18 = .ok (.invokevirtual 138, 3) := by decide +kernel
theorem dX7_passesAll_21 : decode cX7_passesAll 21 = .ok (.aload_n 0, 1) := by decide +kernel
theorem dX7_passesAll_22 : decode cX7_passesAll 22 = .ok (.aload_n 0, 1) := by decide +kernel
theorem dX7_passesAll_23 : decode cX7_passesAll 23 = .ok (.getfield 16, 3) := by decide +kernel
theorem dX7_passesAll_26 : decode cX7_passesAll 26 = .ok (.invokevirtual 138, 3) := by decide +kernel
theorem dX7_passesAll_29 : decode cX7_passesAll 29 = .ok (.aload_n 0, 1) := by decide +kernel
theorem dX7_passesAll_30 : decode cX7_passesAll 30 = .ok (.aload_n 0, 1) := by decide +kernel
theorem dX7_passesAll_31 : decode cX7_passesAll 31 = .ok (.getfield 19, 3) := by decide +kernel
theorem dX7_passesAll_34 : decode cX7_passesAll 34 = .ok (.invokevirtual 138, 3) := by decide +kernel
theorem dX7_passesAll_37 : decode cX7_passesAll 37 = .ok (.aload_n 0, 1) := by decide +kernel
theorem dX7_passesAll_38 : decode cX7_passesAll 38 = .ok (.aload_n 0, 1) := by decide +kernel
theorem dX7_passesAll_39 : decode cX7_passesAll 39 = .ok (.getfield 22, 3) := by decide +kernel
theorem dX7_passesAll_42 : decode cX7_passesAll 42 = .ok (.invokevirtual 138, 3) := by decide +kernel
theorem dX7_passesAll_45 : decode cX7_passesAll 45 = .ok (.aload_n 0, 1) := by decide +kernel
theorem dX7_passesAll_46 : decode cX7_passesAll 46 = .ok (.aload_n 0, 1) := by decide +kernel
theorem dX7_passesAll_47 : decode cX7_passesAll 47 = .ok (.aload_n 0, 1) := by decide +kernel
theorem dX7_passesAll_48 : decode cX7_passesAll 48 = .ok (.getfield 70, 3) := by decide +kernel
theorem dX7_passesAll_51 : decode cX7_passesAll 51 = .ok (.invokevirtual 142, 3) := by decide +kernel
theorem dX7_passesAll_54 : decode cX7_passesAll 54 = .ok (.putfield 70, 3) := by decide +kernel
theorem dX7_passesAll_57 : decode cX7_passesAll 57 = .ok (.aload_n 0, 1) := by decide +kernel
theorem dX7_passesAll_58 : decode cX7_passesAll 58 = .ok (.aload_n 0, 1) := by decide +kernel
theorem dX7_passesAll_59 : decode cX7_passesAll 59 = .ok (.aload_n 0, 1) := by decide +kernel
theorem dX7_passesAll_60 : decode cX7_passesAll 60 = .ok (.getfield 109, 3) := by decide +kernel
theorem dX7_passesAll_63 : decode cX7_passesAll 63 = .ok (.invokevirtual 142, 3) := by decide +kernel
theorem dX7_passesAll_66 : decode cX7_passesAll 66 = .ok (.putfield 109, 3) := by decide +kernel
theorem dX7_passesAll_69 : decode cX7_passesAll 69 = .ok (.return_, 1) := by decide +kernel
set_option maxRecDepth 20000 in
theorem ggX7_image_X7_passesAll : GoodIn wsX7_image wsX7_passesAll := goodIn_r _ [6, 7, 8, 9, 10, 11, 12, 13, 14, 15, 16, 17, 5, 18, 19, 20, 21, 22, 23, 31, 32, 33, 34, 35, 36, 37, 38, 39, 40, 41, 42, 43, 44, 45, 46, 47, 48, 49, 50, 51, 52, 53, 54, 55, 56, 57, 58, 59, 60, 61, 62, 63] (by decide +kernel) (by decide +kernel)
set_option maxRecDepth 20000 in
theorem gX7_image_X7_passesAll : GoodIn wsX7_image (wsV RX7 124 RX7 yX7_passesAll wsX7_passesAll) := goodIn_app (goodIn_of _ (by decide +kernel)) ggX7_image_X7_passesAll
set_option maxRecDepth 20000 in
theorem ggX7_image_X7_pairsDanced : GoodIn wsX7_image wsX7_pairsDanced := goodIn_r _ [27, 13, 12, 28, 29, 5, 30, 31, 32, 33, 34, 35, 36, 37, 38, 39, 40, 41, 42, 43, 44, 45, 46, 47, 48, 49, 50, 51, 52, 53, 54, 55, 56, 57, 58, 59, 60, 61, 62, 63] (by decide +kernel) (by decide +kernel)
set_option maxRecDepth 20000 in
theorem gX7_image_X7_pairsDanced : GoodIn wsX7_image (wsV RX7 148 RX7 yX7_pairsDanced wsX7_pairsDanced) := goodIn_app (goodIn_of _ (by decide +kernel)) ggX7_image_X7_pairsDanced
theorem dX7_image_0 : decode cX7_image 0 = .ok (.aload_n 0, 1) := by decide +kernel
theorem dX7_image_1 : decode cX7_image 1 = .ok (.iconst 1, 1) := by decide +kernel
theorem dX7_image_2 : decode cX7_image 2 = .ok (.putfield 145, 3) := by decide +kernel
theorem dX7_image_5 : decode cX7_image 5 = .ok (.aload_n 0, 1) := by decide +kernel
theorem dX7_image_6 : decode cX7_image 6 = .ok (.iconst 0, 1) := by decide +kernel
theorem dX7_image_7 : decode cX7_image 7 = .ok (.iconst 1, 1) := by decide +kernel
theorem dX7_image_8 : decode cX7_image 8 = .ok (.invokevirtual 124, 3) := by decide +kernel
theorem dX7_image_11 : decode cX7_image 11 = .ok (.aload_n 0, 1) := by decide +kernel
theorem dX7_image_12 : decode cX7_image 12 = .ok (.invokevirtual 148, 3) := by decide +kernel
theorem dX7_image_15 : decode cX7_image 15 = .ok (.ireturn, 1) := by decide +kernel
set_option maxRecDepth 20000 in
theorem ggX7_restore_X7_no : GoodIn wsX7_restore wsX7_no := goodIn_r _ [6, 7, 36, 37, 38, 39, 40, 41, 42, 43, 44, 45, 46, 47, 48, 49, 50, 51, 52, 53, 54, 55, 56, 57, 58, 59, 60, 61, 62, 63, 64, 65, 66, 67, 68] (by decide +kernel) (by decide +kernel)
set_option maxRecDepth 20000 in
theorem gX7_restore_X7_no : GoodIn wsX7_restore (wsV RX7 89 RX7 yX7_no wsX7_no) := goodIn_app (goodIn_of _ (by decide +kernel)) ggX7_restore_X7_no
set_option maxRecDepth 20000 in
theorem ggX7_restore_X7_passesAll : GoodIn wsX7_restore wsX7_passesAll := goodIn_r _ [11, 12, 13, 14, 15, 16, 17, 18, 19, 20, 21, 22, 5, 23, 24, 25, 26, 27, 28, 36, 37, 38, 39, 40, 41, 42, 43, 44, 45, 46, 47, 48, 49, 50, 51, 52, 53, 54, 55, 56, 57, 58, 59, 60, 61, 62, 63, 64, 65, 66, 67, 68] (by decide +kernel) (by decide +kernel)
set_option maxRecDepth 20000 in
theorem gX7_restore_X7_passesAll : GoodIn wsX7_restore (wsV RX7 124 RX7 yX7_passesAll wsX7_passesAll) := goodIn_app (goodIn_of _ (by decide +kernel)) ggX7_restore_X7_passesAll
set_option maxRecDepth 20000 in
theorem ggX7_restore_X7_pairsDanced : GoodIn wsX7_restore wsX7_pairsDanced := goodIn_r _ [32, 18, 17, 33, 34, 5, 35, 36, 37, 38, 39, 40, 41, 42, 43, 44, 45, 46, 47, 48, 49, 50, 51, 52, 53, 54, 55, 56, 57, 58, 59, 60, 61, 62, 63, 64, 65, 66, 67, 68] (by decide +kernel) (by decide +kernel)
set_option maxRecDepth 20000 in
theorem gX7_restore_X7_pairsDanced : GoodIn wsX7_restore (wsV RX7 148 RX7 yX7_pairsDanced wsX7_pairsDanced) := goodIn_app (goodIn_of _ (by decide +kernel)) ggX7_restore_X7_pairsDanced
theorem dX7_restore_0 : decode cX7_restore 0 = .ok (.aload_n 0, 1) := by decide +kernel
theorem dX7_restore_1 : decode cX7_restore 1 = .ok (.getfield 145, 3) := by decide +kernel
theorem dX7_restore_4 : decode cX7_restore 4 = .ok (.ifCond .ne 10, 3) := by decide +kernel
theorem dX7_restore_7 : decode cX7_restore 7 = .ok (.aload_n 0, 1) := by decide +kernel
theorem dX7_restore_8 : decode cX7_restore 8 = .ok (.bipush (-3), 2) := by decide +kernel
theorem dX7_restore_10 : decode cX7_restore 10 = .ok (.invokevirtual 89, 3) := by decide +kernel
theorem dX7_restore_13 : decode cX7_restore 13 = .ok (.ireturn, 1) := by decide +kernel
theorem dX7_restore_14 : decode cX7_restore 14 = .ok (.aload_n 0, 1) := by decide +kernel
theorem dX7_restore_15 : decode cX7_restore 15 = .ok (.iconst 0, 1) := by decide +kernel
theorem dX7_restore_16 : decode cX7_restore 16 = .ok (.iconst 0, 1) := by decide +kernel
theorem dX7_restore_17 : decode cX7_restore 17 = .ok (.invokevirtual 124, 3) := by decide +kernel
theorem dX7_restore_20 : decode cX7_restore 20 = .ok (.aload_n 0, 1) := by decide +kernel
theorem dX7_restore_21 : decode cX7_restore 21 = .ok (.invokevirtual 148, 3) := by decide +kernel
theorem dX7_restore_24 : decode cX7_restore 24 = .ok (.ireturn, 1) := by decide +kernel
set_option maxRecDepth 20000 in
theorem ggX7_isBringing_X7_haveDanced : GoodIn wsX7_isBringing wsX7_haveDanced := goodIn_r _ [9, 4, 13, 14, 15, 16, 17, 18, 19, 20, 21, 22, 23, 24, 25, 26, 27, 28, 29, 30, 31, 32, 33, 34, 35, 36, 37, 38, 39, 40, 41, 42, 43, 44, 45] (by decide +kernel) (by decide +kernel)
set_option maxRecDepth 20000 in
theorem gX7_isBringing_X7_haveDanced : GoodIn wsX7_isBringing (wsV RX7 151 RX7 yX7_haveDanced wsX7_haveDanced) := goodIn_app (goodIn_of _ (by decide +kernel)) ggX7_isBringing_X7_haveDanced
set_option maxRecDepth 20000 in
theorem ggX7_isBringing_X7_bits : GoodIn wsX7_isBringing wsX7_bits := goodIn_r _ [12] (by decide +kernel) (by decide +kernel)
set_option maxRecDepth 20000 in
theorem gX7_isBringing_X7_bits : GoodIn wsX7_isBringing (va_wsS RX7 78 yX7_bits wsX7_bits) := goodIn_app (goodIn_of _ (by decide +kernel)) ggX7_isBringing_X7_bits
theorem dX7_isBringing_0 : decode cX7_isBringing 0 = .ok (.iload_n 1, 1) := by decide +kernel
theorem dX7_isBringing_1 : decode cX7_isBringing 1 = .ok (.iload_n 2, 1) := by decide +kernel
theorem dX7_isBringing_2 : decode cX7_isBringing 2 = .ok (.if_icmp .eq 26, 3) := by decide +kernel
theorem dX7_isBringing_5 : decode cX7_isBringing 5 = .ok (.iload_n 1, 1) := by decide +kernel
theorem dX7_isBringing_6 : decode cX7_isBringing 6 = .ok (.iload_n 3, 1) := by decide +kernel
theorem dX7_isBringing_7 : decode cX7_isBringing 7 = .ok (.if_icmp .eq 21, 3) := by decide +kernel
theorem dX7_isBringing_10 : decode cX7_isBringing 10 = .ok (.aload_n 0, 1) := by decide +kernel
theorem dX7_isBringing_11 : decode cX7_isBringing 11 = .ok (.iload_n 1, 1) := by decide +kernel
theorem dX7_isBringing_12 : decode cX7_isBringing 12 = .ok (.iload_n 2, 1) := by decide +kernel
theorem dX7_isBringing_13 : decode cX7_isBringing 13 = .ok (.invokevirtual 151, 3) := by decide +kernel
theorem dX7_isBringing_16 : decode cX7_isBringing 16 = .ok (.ifCond .eq 12, 3) := by decide +kernel
theorem dX7_isBringing_19 : decode cX7_isBringing 19 = .ok (.aload_n 0, 1) := by decide +kernel
theorem dX7_isBringing_20 : decode cX7_isBringing 20 = .ok (.iload_n 1, 1) := by decide +kernel
theorem dX7_isBringing_21 : decode cX7_isBringing 21 = .ok (.iload_n 3, 1) := by decide +kernel
theorem dX7_isBringing_22 : decode cX7_isBringing 22 = .ok (.invokevirtual 151, 3) := by decide +kernel
theorem dX7_isBringing_25 : decode cX7_isBringing 25 = .ok (.ifCond .ne 5, 3) := by decide +kernel
theorem dX7_isBringing_28 : decode cX7_isBringing 28 = .ok (.iconst 0, 1) := by decide +kernel
theorem dX7_isBringing_29 : decode cX7_isBringing 29 = .ok (.ireturn, 1) := by decide +kernel
theorem dX7_isBringing_30 : decode cX7_isBringing 30 = .ok (.aload_n 0, 1) := by decide +kernel
theorem dX7_isBringing_31 : decode cX7_isBringing 31 = .ok (.getfield 19, 3) := by decide +kernel
theorem dX7_isBringing_34 : decode cX7_isBringing 34 = .ok (.iload_n 1, 1) := by decide +kernel
theorem dX7_isBringing_35 : decode cX7_isBringing 35 = .ok (.iaload, 1) := by decide +kernel
theorem dX7_isBringing_36 : decode cX7_isBringing 36 = .ok (.aload_n 0, 1) := by decide +kernel
theorem dX7_isBringing_37 : decode cX7_isBringing 37 = .ok (.getfield 16, 3) := by decide +kernel
theorem dX7_isBringing_40 : decode cX7_isBringing 40 = .ok (.iload_n 1, 1) := by decide +kernel
theorem dX7_isBringing_41 : decode cX7_isBringing 41 = .ok (.iaload, 1) := by decide +kernel
theorem dX7_isBringing_42 : decode cX7_isBringing 42 = .ok (.if_icmp .ge 7, 3) := by decide +kernel
theorem dX7_isBringing_45 : decode cX7_isBringing 45 = .ok (.iconst 1, 1) := by decide +kernel
theorem dX7_isBringing_46 : decode cX7_isBringing 46 = .ok (.goto 4, 3) := by decide +kernel
theorem dX7_isBringing_49 : decode cX7_isBringing 49 = .ok (.iconst 0, 1) := by decide +kernel
theorem dX7_isBringing_50 : decode cX7_isBringing 50 = .ok (.istore 4, 2) := by decide +kernel
theorem dX7_isBringing_52 : decode cX7_isBringing 52 = .ok (.aload_n 0, 1) := by decide +kernel
theorem dX7_isBringing_53 : decode cX7_isBringing 53 = .ok (.getfield 16, 3) := by decide +kernel
theorem dX7_isBringing_56 : decode cX7_isBringing 56 = .ok (.iload_n 1, 1) := by decide +kernel
theorem dX7_isBringing_57 : decode cX7_isBringing 57 = .ok (.iaload, 1) := by decide +kernel
theorem dX7_isBringing_58 : decode cX7_isBringing 58 = .ok (.iload_n 2, 1) := by decide +kernel
theorem dX7_isBringing_59 : decode cX7_isBringing 59 = .ok (.if_icmp .eq 17, 3) := by decide +kernel
theorem dX7_isBringing_62 : decode cX7_isBringing 62 = .ok (.aload_n 0, 1) := by decide +kernel
theorem dX7_isBringing_63 : decode cX7_isBringing 63 = .ok (.getfield 16, 3) := by decide +kernel
theorem dX7_isBringing_66 : decode cX7_isBringing 66 = .ok (.iload_n 1, 1) := by decide +kernel
theorem dX7_isBringing_67 : decode cX7_isBringing 67 = .ok (.iaload, 1) := by decide +kernel
theorem dX7_isBringing_68 : decode cX7_isBringing 68 = .ok (.iload_n 3, 1) := by decide +kernel
theorem dX7_isBringing_69 : decode cX7_isBringing 69 = .ok (.if_icmp .eq 7, 3) := by decide +kernel
theorem dX7_isBringing_72 : decode cX7_isBringing 72 = .ok (.iconst 1, 1) := by decide +kernel
theorem dX7_isBringing_73 : decode cX7_isBringing 73 = .ok (.goto 4, 3) := by decide +kernel
theorem dX7_isBringing_76 : decode cX7_isBringing 76 = .ok (.iconst 0, 1) := by decide +kernel
theorem dX7_isBringing_77 : decode cX7_isBringing 77 = .ok (.istore 5, 2) := by decide +kernel
theorem dX7_isBringing_79 : decode cX7_isBringing 79 = .ok (.aload_n 0, 1) := by decide +kernel
theorem dX7_isBringing_80 : decode cX7_isBringing 80 = .ok (.getfield 13, 3) := by decide +kernel
theorem dX7_isBringing_83 : decode cX7_isBringing 83 = .ok (.iload_n 1, 1) := by decide +kernel
theorem dX7_isBringing_84 : decode cX7_isBringing 84 = .ok (.iaload, 1) := by decide +kernel
theorem dX7_isBringing_85 : decode cX7_isBringing 85 = .ok (.tableswitch 104 1 5 #[35, 38, 104, 41, 80], 35) := by decide +kernel
theorem dX7_isBringing_120 : decode cX7_isBringing 120 = .ok (.iload 4, 2) := by decide +kernel
theorem dX7_isBringing_122 : decode cX7_isBringing 122 = .ok (.ireturn, 1) := by decide +kernel
theorem dX7_isBringing_123 : decode cX7_isBringing 123 = .ok (.iload 5, 2) := by decide +kernel
theorem dX7_isBringing_125 : decode cX7_isBringing 125 = .ok (.ireturn, 1) := by decide +kernel
theorem dX7_isBringing_126 : decode cX7_isBringing 126 = .ok (.iload 4, 2) := by decide +kernel
theorem dX7_isBringing_128 : decode cX7_isBringing 128 = .ok (.ifCond .eq 35, 3) := by decide +kernel
theorem dX7_isBringing_131 : decode cX7_isBringing 131 = .ok (.iload_n 2, 1) := by decide +kernel
theorem dX7_isBringing_132 : decode cX7_isBringing 132 = .ok (.iload_n 1, 1) := by decide +kernel
theorem dX7_isBringing_133 : decode cX7_isBringing 133 = .ok (.isub, 1) := by decide +kernel
theorem dX7_isBringing_134 : decode cX7_isBringing 134 = .ok (.iconst 1, 1) := by decide +kernel
theorem dX7_isBringing_135 : decode cX7_isBringing 135 = .ok (.if_icmp .eq 24, 3) := by decide +kernel
theorem dX7_isBringing_138 : decode cX7_isBringing 138 = .ok (.iload_n 1, 1) := by decide +kernel
theorem dX7_isBringing_139 : decode cX7_isBringing 139 = .ok (.iload_n 2, 1) := by decide +kernel
theorem dX7_isBringing_140 : decode cX7_isBringing 140 = .ok (.isub, 1) := by decide +kernel
theorem dX7_isBringing_141 : decode cX7_isBringing 141 = .ok (.iconst 1, 1) := by decide +kernel
theorem dX7_isBringing_142 : decode cX7_isBringing 142 = .ok (.if_icmp .eq 17, 3) := by decide +kernel
theorem dX7_isBringing_145 : decode cX7_isBringing 145 = .ok (.iload_n 3, 1) := by decide +kernel
theorem dX7_isBringing_146 : decode cX7_isBringing 146 = .ok (.iload_n 1, 1) := by decide +kernel
theorem dX7_isBringing_147 : decode cX7_isBringing 147 = .ok (.isub, 1) := by decide +kernel
theorem dX7_isBringing_148 : decode cX7_isBringing 148 = .ok (.iconst 1, 1) := by decide +kernel
theorem dX7_isBringing_149 : decode cX7_isBringing 149 = .ok (.if_icmp .eq 10, 3) := by decide +kernel
theorem dX7_isBringing_152 : decode cX7_isBringing 152 = .ok (.iload_n 1, 1) := by decide +kernel
theorem dX7_isBringing_153 : decode cX7_isBringing 153 = .ok (.iload_n 3, 1) := by decide +kernel
theorem dX7_isBringing_154 : decode cX7_isBringing 154 = .ok (.isub, 1) := by decide +kernel
theorem dX7_isBringing_155 : decode cX7_isBringing 155 = .ok (.iconst 1, 1) := by decide +kernel
theorem dX7_isBringing_156 : decode cX7_isBringing 156 = .ok (.if_icmp .ne 7, 3) := by decide +kernel
theorem dX7_isBringing_159 : decode cX7_isBringing 159 = .ok (.iconst 1, 1) := by decide +kernel
theorem dX7_isBringing_160 : decode cX7_isBringing 160 = .ok (.goto 4, 3) := by decide +kernel
theorem dX7_isBringing_163 : decode cX7_isBringing 163 = .ok (.iconst 0, 1) := by decide +kernel
theorem dX7_isBringing_164 : decode cX7_isBringing 164 = .ok (.ireturn, 1) := by decide +kernel
theorem dX7_isBringing_165 : decode cX7_isBringing 165 = .ok (.iload 5, 2) := by decide +kernel
theorem dX7_isBringing_167 : decode cX7_isBringing 167 = .ok (.ifCond .eq 20, 3) := by decide +kernel
theorem dX7_isBringing_170 : decode cX7_isBringing 170 = .ok (.aload_n 0, 1) := by decide +kernel
theorem dX7_isBringing_171 : decode cX7_isBringing 171 = .ok (.getfield 22, 3) := by decide +kernel
theorem dX7_isBringing_174 : decode cX7_isBringing 174 = .ok (.iload_n 1, 1) := by decide +kernel
theorem dX7_isBringing_175 : decode cX7_isBringing 175 = .ok (.iaload, 1) := by decide +kernel
theorem dX7_isBringing_176 : decode cX7_isBringing 176 = .ok (.invokestatic 78, 3) := by decide +kernel
theorem dX7_isBringing_179 : decode cX7_isBringing 179 = .ok (.iconst 3, 1) := by decide +kernel
theorem dX7_isBringing_180 : decode cX7_isBringing 180 = .ok (.if_icmp .lt 7, 3) := by decide +kernel
theorem dX7_isBringing_183 : decode cX7_isBringing 183 = .ok (.iconst 1, 1) := by decide +kernel
theorem dX7_isBringing_184 : decode cX7_isBringing 184 = .ok (.goto 4, 3) := by decide +kernel
theorem dX7_isBringing_187 : decode cX7_isBringing 187 = .ok (.iconst 0, 1) := by decide +kernel
theorem dX7_isBringing_188 : decode cX7_isBringing 188 = .ok (.ireturn, 1) := by decide +kernel
theorem dX7_isBringing_189 : decode cX7_isBringing 189 = .ok (.iconst 1, 1) := by decide +kernel
theorem dX7_isBringing_190 : decode cX7_isBringing 190 = .ok (.ireturn, 1) := by decide +kernel
set_option maxRecDepth 20000 in
theorem ggX7_bringersOf_X7_isBringing : GoodIn wsX7_bringersOf wsX7_isBringing := goodIn_r _ [7, 8, 9, 10, 11, 12, 13, 14, 6, 15, 16, 17, 18, 19, 20, 21, 22, 23, 24, 25, 26, 27, 28, 29, 30, 31, 32, 33, 34, 35, 36, 37, 38, 39, 40, 41, 42, 43, 44, 45, 46, 47, 48, 49, 50, 51] (by decide +kernel) (by decide +kernel)
set_option maxRecDepth 20000 in
theorem gX7_bringersOf_X7_isBringing : GoodIn wsX7_bringersOf (wsV RX7 154 RX7 yX7_isBringing wsX7_isBringing) := goodIn_app (goodIn_of _ (by decide +kernel)) ggX7_bringersOf_X7_isBringing
theorem dX7_bringersOf_0 : decode cX7_bringersOf 0 = .ok (.iconst 0, 1) := by decide +kernel
theorem dX7_bringersOf_1 : decode cX7_bringersOf 1 = .ok (.istore_n 3, 1) := by decide +kernel
theorem dX7_bringersOf_2 : decode cX7_bringersOf 2 = .ok (.iconst 0, 1) := by decide +kernel
theorem dX7_bringersOf_3 : decode cX7_bringersOf 3 = .ok (.istore 4, 2) := by decide +kernel
theorem dX7_bringersOf_5 : decode cX7_bringersOf 5 = .ok (.iload 4, 2) := by decide +kernel
theorem dX7_bringersOf_7 : decode cX7_bringersOf 7 = .ok (.aload_n 0, 1) := by decide +kernel
theorem dX7_bringersOf_8 : decode cX7_bringersOf 8 = .ok (.getfield 70, 3) := by decide +kernel
theorem dX7_bringersOf_11 : decode cX7_bringersOf 11 = .ok (.if_icmp .ge 63, 3) := by decide +kernel
theorem dX7_bringersOf_14 : decode cX7_bringersOf 14 = .ok (.aload_n 0, 1) := by decide +kernel
theorem dX7_bringersOf_15 : decode cX7_bringersOf 15 = .ok (.getfield 109, 3) := by decide +kernel
theorem dX7_bringersOf_18 : decode cX7_bringersOf 18 = .ok (.iconst 2, 1) := by decide +kernel
theorem dX7_bringersOf_19 : decode cX7_bringersOf 19 = .ok (.if_icmp .ne 15, 3) := by decide +kernel
theorem dX7_bringersOf_22 : decode cX7_bringersOf 22 = .ok (.iload 4, 2) := by decide +kernel
theorem dX7_bringersOf_24 : decode cX7_bringersOf 24 = .ok (.iload_n 1, 1) := by decide +kernel
theorem dX7_bringersOf_25 : decode cX7_bringersOf 25 = .ok (.if_icmp .ge 13, 3) := by decide +kernel
theorem dX7_bringersOf_28 : decode cX7_bringersOf 28 = .ok (.iload 4, 2) := by decide +kernel
theorem dX7_bringersOf_30 : decode cX7_bringersOf 30 = .ok (.iload_n 2, 1) := by decide +kernel
theorem dX7_bringersOf_31 : decode cX7_bringersOf 31 = .ok (.if_icmp .ge 7, 3) := by decide +kernel
theorem dX7_bringersOf_34 : decode cX7_bringersOf 34 = .ok (.iconst 1, 1) := by decide +kernel
theorem dX7_bringersOf_35 : decode cX7_bringersOf 35 = .ok (.goto 4, 3) := by decide +kernel
theorem dX7_bringersOf_38 : decode cX7_bringersOf 38 = .ok (.iconst 0, 1) := by decide +kernel
theorem dX7_bringersOf_39 : decode cX7_bringersOf 39 = .ok (.istore 5, 2) := by decide +kernel
theorem dX7_bringersOf_41 : decode cX7_bringersOf 41 = .ok (.iload_n 3, 1) := by decide +kernel
theorem dX7_bringersOf_42 : decode cX7_bringersOf 42 = .ok (.iload 5, 2) := by decide +kernel
theorem dX7_bringersOf_44 : decode cX7_bringersOf 44 = .ok (.ifCond .eq 21, 3) := by decide +kernel
theorem dX7_bringersOf_47 : decode cX7_bringersOf 47 = .ok (.aload_n 0, 1) := by decide +kernel
theorem dX7_bringersOf_48 : decode cX7_bringersOf 48 = .ok (.iload 4, 2) := by decide +kernel
theorem dX7_bringersOf_50 : decode cX7_bringersOf 50 = .ok (.iload_n 1, 1) := by decide +kernel
theorem dX7_bringersOf_51 : decode cX7_bringersOf 51 = .ok (.iload_n 2, 1) := by decide +kernel
theorem dX7_bringersOf_52 : decode cX7_bringersOf 52 = .ok (.invokevirtual 154, 3) := by decide +kernel
theorem dX7_bringersOf_55 : decode cX7_bringersOf 55 = .ok (.ifCond .eq 10, 3) := by decide +kernel
theorem dX7_bringersOf_58 : decode cX7_bringersOf 58 = .ok (.iconst 1, 1) := by decide +kernel
theorem dX7_bringersOf_59 : decode cX7_bringersOf 59 = .ok (.iload 4, 2) := by decide +kernel
theorem dX7_bringersOf_61 : decode cX7_bringersOf 61 = .ok (.ishl, 1) := by decide +kernel
theorem dX7_bringersOf_62 : decode cX7_bringersOf 62 = .ok (.goto 4, 3) := by decide +kernel
theorem dX7_bringersOf_65 : decode cX7_bringersOf 65 = .ok (.iconst 0, 1) := by decide +kernel
theorem dX7_bringersOf_66 : decode cX7_bringersOf 66 = .ok (.ior, 1) := by decide +kernel
theorem dX7_bringersOf_67 : decode cX7_bringersOf 67 = .ok (.istore_n 3, 1) := by decide +kernel
theorem dX7_bringersOf_68 : decode cX7_bringersOf 68 = .ok (.iinc 4 1, 3) := by decide +kernel
theorem dX7_bringersOf_71 : decode cX7_bringersOf 71 = .ok (.goto (-66), 3) := by decide +kernel
theorem dX7_bringersOf_74 : decode cX7_bringersOf 74 = .ok (.iload_n 3, 1) := by decide +kernel
theorem dX7_bringersOf_75 : decode cX7_bringersOf 75 = .ok (.ireturn, 1) := by decide +kernel
theorem dX7_areCousins_0 : decode cX7_areCousins 0 = .ok (.aload_n 0, 1) := by decide +kernel
theorem dX7_areCousins_1 : decode cX7_areCousins 1 = .ok (.getfield 13, 3) := by decide +kernel
theorem dX7_areCousins_4 : decode cX7_areCousins 4 = .ok (.iload_n 1, 1) := by decide +kernel
theorem dX7_areCousins_5 : decode cX7_areCousins 5 = .ok (.iaload, 1) := by decide +kernel
theorem dX7_areCousins_6 : decode cX7_areCousins 6 = .ok (.iconst 3, 1) := by decide +kernel
theorem dX7_areCousins_7 : decode cX7_areCousins 7 = .ok (.if_icmp .ne 32, 3) := by decide +kernel
theorem dX7_areCousins_10 : decode cX7_areCousins 10 = .ok (.aload_n 0, 1) := by decide +kernel
theorem dX7_areCousins_11 : decode cX7_areCousins 11 = .ok (.getfield 13, 3) := by decide +kernel
theorem dX7_areCousins_14 : decode cX7_areCousins 14 = .ok (.iload_n 2, 1) := by decide +kernel
theorem dX7_areCousins_15 : decode cX7_areCousins 15 = .ok (.iaload, 1) := by decide +kernel
theorem dX7_areCousins_16 : decode cX7_areCousins 16 = .ok (.iconst 3, 1) := by decide +kernel
theorem dX7_areCousins_17 : decode cX7_areCousins 17 = .ok (.if_icmp .ne 22, 3) := by decide +kernel
theorem dX7_areCousins_20 : decode cX7_areCousins 20 = .ok (.aload_n 0, 1) := by decide +kernel
theorem dX7_areCousins_21 : decode cX7_areCousins 21 = .ok (.getfield 16, 3) := by decide +kernel
theorem dX7_areCousins_24 : decode cX7_areCousins 24 = .ok (.iload_n 1, 1) := by decide +kernel
theorem dX7_areCousins_25 : decode cX7_areCousins 25 = .ok (.iaload, 1) := by decide +kernel
theorem dX7_areCousins_26 : decode cX7_areCousins 26 = .ok (.aload_n 0, 1) := by decide +kernel
theorem dX7_areCousins_27 : decode cX7_areCousins 27 = .ok (.getfield 16, 3) := by decide +kernel
theorem dX7_areCousins_30 : decode cX7_areCousins 30 = .ok (.iload_n 2, 1) := by decide +kernel
theorem dX7_areCousins_31 : decode cX7_areCousins 31 = .ok (.iaload, 1) := by decide +kernel
theorem dX7_areCousins_32 : decode cX7_areCousins 32 = .ok (.if_icmp .ne 7, 3) := by decide +kernel
theorem dX7_areCousins_35 : decode cX7_areCousins 35 = .ok (.iconst 1, 1) := by decide +kernel
theorem dX7_areCousins_36 : decode cX7_areCousins 36 = .ok (.goto 4, 3) := by decide +kernel
theorem dX7_areCousins_39 : decode cX7_areCousins 39 = .ok (.iconst 0, 1) := by decide +kernel
theorem dX7_areCousins_40 : decode cX7_areCousins 40 = .ok (.ireturn, 1) := by decide +kernel
set_option maxRecDepth 20000 in
theorem ggX7_mayDance_X7_haveDanced : GoodIn wsX7_mayDance wsX7_haveDanced := goodIn_r _ [6, 7, 27, 28, 29, 30, 31, 32, 33, 34, 35, 36, 37, 38, 39, 40, 41, 42, 43, 44, 45, 46, 47, 48, 49, 50, 51, 52, 53, 54, 55, 56, 57, 58, 59] (by decide +kernel) (by decide +kernel)
set_option maxRecDepth 20000 in
theorem gX7_mayDance_X7_haveDanced : GoodIn wsX7_mayDance (wsV RX7 151 RX7 yX7_haveDanced wsX7_haveDanced) := goodIn_app (goodIn_of _ (by decide +kernel)) ggX7_mayDance_X7_haveDanced
set_option maxRecDepth 20000 in
theorem ggX7_mayDance_X7_areCousins : GoodIn wsX7_mayDance wsX7_areCousins := goodIn_r _ [11, 12, 13, 27, 28, 29, 30, 31, 32, 33, 34, 35, 36, 37, 38, 39, 40, 41, 42, 43, 44, 45, 46, 47, 48, 49, 50, 51, 52, 53, 54, 55, 56, 57, 58, 59] (by decide +kernel) (by decide +kernel)
set_option maxRecDepth 20000 in
theorem gX7_mayDance_X7_areCousins : GoodIn wsX7_mayDance (wsV RX7 157 RX7 yX7_areCousins wsX7_areCousins) := goodIn_app (goodIn_of _ (by decide +kernel)) ggX7_mayDance_X7_areCousins
set_option maxRecDepth 20000 in
theorem ggX7_mayDance_X7_bringersOf : GoodIn wsX7_mayDance wsX7_bringersOf := goodIn_r _ [17, 18, 1, 19, 20, 21, 5, 22, 23, 13, 12, 7, 2, 3, 4, 6, 24, 25, 26, 27, 28, 29, 30, 31, 32, 33, 34, 35, 36, 37, 38, 39, 40, 41, 42, 43, 44, 45, 46, 47, 48, 49, 50, 51, 52, 53, 54, 55, 56, 57, 58, 59] (by decide +kernel) (by decide +kernel)
set_option maxRecDepth 20000 in
theorem gX7_mayDance_X7_bringersOf : GoodIn wsX7_mayDance (wsV RX7 160 RX7 yX7_bringersOf wsX7_bringersOf) := goodIn_app (goodIn_of _ (by decide +kernel)) ggX7_mayDance_X7_bringersOf
set_option maxRecDepth 20000 in
theorem ggX7_mayDance_X7_bits : GoodIn wsX7_mayDance wsX7_bits := goodIn_r _ [26] (by decide +kernel) (by decide +kernel)
set_option maxRecDepth 20000 in
theorem gX7_mayDance_X7_bits : GoodIn wsX7_mayDance (va_wsS RX7 78 yX7_bits wsX7_bits) := goodIn_app (goodIn_of _ (by decide +kernel)) ggX7_mayDance_X7_bits
theorem dX7_mayDance_0 : decode cX7_mayDance 0 = .ok (.aload_n 0, 1) := by decide +kernel
theorem dX7_mayDance_1 : decode cX7_mayDance 1 = .ok (.iload_n 1, 1) := by decide +kernel
theorem dX7_mayDance_2 : decode cX7_mayDance 2 = .ok (.iload_n 2, 1) := by decide +kernel
theorem dX7_mayDance_3 : decode cX7_mayDance 3 = .ok (.invokevirtual 151, 3) := by decide +kernel
theorem dX7_mayDance_6 : decode cX7_mayDance 6 = .ok (.ifCond .ne 41, 3) := by decide +kernel
theorem dX7_mayDance_9 : decode cX7_mayDance 9 = .ok (.aload_n 0, 1) := by decide +kernel
theorem dX7_mayDance_10 : decode cX7_mayDance 10 = .ok (.iload_n 1, 1) := by decide +kernel
theorem dX7_mayDance_11 : decode cX7_mayDance 11 = .ok (.iload_n 2, 1) := by decide +kernel
theorem dX7_mayDance_12 : decode cX7_mayDance 12 = .ok (.invokevirtual 157, 3) := by decide +kernel
theorem dX7_mayDance_15 : decode cX7_mayDance 15 = .ok (.ifCond .ne 28, 3) := by decide +kernel
theorem dX7_mayDance_18 : decode cX7_mayDance 18 = .ok (.aload_n 0, 1) := by decide +kernel
theorem dX7_mayDance_19 : decode cX7_mayDance 19 = .ok (.iload_n 1, 1) := by decide +kernel
theorem dX7_mayDance_20 : decode cX7_mayDance 20 = .ok (.iload_n 2, 1) := by decide +kernel
theorem dX7_mayDance_21 : decode cX7_mayDance 21 = .ok (.invokevirtual 160, 3) := by decide +kernel
theorem dX7_mayDance_24 : decode cX7_mayDance 24 = .ok (.invokestatic 78, 3) := by decide +kernel
theorem dX7_mayDance_27 : decode cX7_mayDance 27 = .ok (.aload_n 0, 1) := by decide +kernel
theorem dX7_mayDance_28 : decode cX7_mayDance 28 = .ok (.getfield 109, 3) := by decide +kernel
theorem dX7_mayDance_31 : decode cX7_mayDance 31 = .ok (.iconst 1, 1) := by decide +kernel
theorem dX7_mayDance_32 : decode cX7_mayDance 32 = .ok (.if_icmp .ne 7, 3) := by decide +kernel
theorem dX7_mayDance_35 : decode cX7_mayDance 35 = .ok (.iconst 2, 1) := by decide +kernel
theorem dX7_mayDance_36 : decode cX7_mayDance 36 = .ok (.goto 4, 3) := by decide +kernel
theorem dX7_mayDance_39 : decode cX7_mayDance 39 = .ok (.iconst 1, 1) := by decide +kernel
theorem dX7_mayDance_40 : decode cX7_mayDance 40 = .ok (.if_icmp .lt 7, 3) := by decide +kernel
theorem dX7_mayDance_43 : decode cX7_mayDance 43 = .ok (.iconst 1, 1) := by decide +kernel
theorem dX7_mayDance_44 : decode cX7_mayDance 44 = .ok (.goto 4, 3) := by decide +kernel
theorem dX7_mayDance_47 : decode cX7_mayDance 47 = .ok (.iconst 0, 1) := by decide +kernel
theorem dX7_mayDance_48 : decode cX7_mayDance 48 = .ok (.ireturn, 1) := by decide +kernel
set_option maxRecDepth 20000 in
theorem ggX7_dances_X7_bringersOf : GoodIn wsX7_dances wsX7_bringersOf := goodIn_r _ [7, 8, 2, 9, 10, 11, 6, 12, 1, 13, 14, 15, 16, 17, 18, 19, 20, 21, 22, 30, 31, 32, 33, 34, 35, 36, 37, 38, 39, 40, 41, 42, 43, 44, 45, 46, 47, 48, 49, 50, 51, 52, 53, 54, 55, 56, 57, 58, 59, 60, 61, 62] (by decide +kernel) (by decide +kernel)
set_option maxRecDepth 20000 in
theorem gX7_dances_X7_bringersOf : GoodIn wsX7_dances (wsV RX7 160 RX7 yX7_bringersOf wsX7_bringersOf) := goodIn_app (goodIn_of _ (by decide +kernel)) ggX7_dances_X7_bringersOf
set_option maxRecDepth 20000 in
theorem ggX7_dances_X7_lowest : GoodIn wsX7_dances wsX7_lowest := goodIn_r _ [25] (by decide +kernel) (by decide +kernel)
set_option maxRecDepth 20000 in
theorem gX7_dances_X7_lowest : GoodIn wsX7_dances (va_wsS RX7 164 yX7_lowest wsX7_lowest) := goodIn_app (goodIn_of _ (by decide +kernel)) ggX7_dances_X7_lowest
set_option maxRecDepth 20000 in
theorem ggX7_dances_X7_joins : GoodIn wsX7_dances wsX7_joins := goodIn_r _ [29, 15, 30, 31, 32, 33, 34, 35, 36, 37, 38, 39, 40, 41, 42, 43, 44, 45, 46, 47, 48, 49, 50, 51, 52, 53, 54, 55, 56, 57, 58, 59, 60, 61, 62] (by decide +kernel) (by decide +kernel)
set_option maxRecDepth 20000 in
theorem gX7_dances_X7_joins : GoodIn wsX7_dances (wsV RX7 116 RX7 yX7_joins wsX7_joins) := goodIn_app (goodIn_of _ (by decide +kernel)) ggX7_dances_X7_joins
theorem dX7_dances_0 : decode cX7_dances 0 = .ok (.iload_n 3, 1) := by decide +kernel
theorem dX7_dances_1 : decode cX7_dances 1 = .ok (.bipush 9, 2) := by decide +kernel
theorem dX7_dances_3 : decode cX7_dances 3 = .ok (.if_icmp .eq 54, 3) := by decide +kernel
theorem dX7_dances_6 : decode cX7_dances 6 = .ok (.aload_n 0, 1) := by decide +kernel
theorem dX7_dances_7 : decode cX7_dances 7 = .ok (.iload_n 1, 1) := by decide +kernel
theorem dX7_dances_8 : decode cX7_dances 8 = .ok (.iload_n 2, 1) := by decide +kernel
theorem dX7_dances_9 : decode cX7_dances 9 = .ok (.invokevirtual 160, 3) := by decide +kernel
theorem dX7_dances_12 : decode cX7_dances 12 = .ok (.iconst 1, 1) := by decide +kernel
theorem dX7_dances_13 : decode cX7_dances 13 = .ok (.iload_n 3, 1) := by decide +kernel
theorem dX7_dances_14 : decode cX7_dances 14 = .ok (.ishl, 1) := by decide +kernel
theorem dX7_dances_15 : decode cX7_dances 15 = .ok (.iconst (-1), 1) := by decide +kernel
theorem dX7_dances_16 : decode cX7_dances 16 = .ok (.ixor, 1) := by decide +kernel
theorem dX7_dances_17 : decode cX7_dances 17 = .ok (.iand, 1) := by decide +kernel
theorem dX7_dances_18 : decode cX7_dances 18 = .ok (.istore 4, 2) := by decide +kernel
theorem dX7_dances_20 : decode cX7_dances 20 = .ok (.aload_n 0, 1) := by decide +kernel
theorem dX7_dances_21 : decode cX7_dances 21 = .ok (.getfield 19, 3) := by decide +kernel
theorem dX7_dances_24 : decode cX7_dances 24 = .ok (.iload_n 3, 1) := by decide +kernel
theorem dX7_dances_25 : decode cX7_dances 25 = .ok (.dup2, 1) := by decide +kernel
theorem dX7_dances_26 : decode cX7_dances 26 = .ok (.iaload, 1) := by decide +kernel
theorem dX7_dances_27 : decode cX7_dances 27 = .ok (.iconst 1, 1) := by decide +kernel
theorem dX7_dances_28 : decode cX7_dances 28 = .ok (.iadd, 1) := by decide +kernel
theorem dX7_dances_29 : decode cX7_dances 29 = .ok (.iastore, 1) := by decide +kernel
theorem dX7_dances_30 : decode cX7_dances 30 = .ok (.aload_n 0, 1) := by decide +kernel
theorem dX7_dances_31 : decode cX7_dances 31 = .ok (.getfield 109, 3) := by decide +kernel
theorem dX7_dances_34 : decode cX7_dances 34 = .ok (.iconst 1, 1) := by decide +kernel
theorem dX7_dances_35 : decode cX7_dances 35 = .ok (.if_icmp .ne 22, 3) := by decide +kernel
theorem dX7_dances_38 : decode cX7_dances 38 = .ok (.iload 4, 2) := by decide +kernel
theorem dX7_dances_40 : decode cX7_dances 40 = .ok (.ifCond .eq 17, 3) := by decide +kernel
theorem dX7_dances_43 : decode cX7_dances 43 = .ok (.aload_n 0, 1) := by decide +kernel
theorem dX7_dances_44 : decode cX7_dances 44 = .ok (.getfield 19, 3) := by decide +kernel
theorem dX7_dances_47 : decode cX7_dances 47 = .ok (.iload 4, 2) := by decide +kernel
theorem dX7_dances_49 : decode cX7_dances 49 = .ok (.invokestatic 164, 3) := by decide +kernel
theorem dX7_dances_52 : decode cX7_dances 52 = .ok (.dup2, 1) := by decide +kernel
theorem dX7_dances_53 : decode cX7_dances 53 = .ok (.iaload, 1) := by decide +kernel
theorem dX7_dances_54 : decode cX7_dances 54 = .ok (.iconst 1, 1) := by decide +kernel
theorem dX7_dances_55 : decode cX7_dances 55 = .ok (.iadd, 1) := by decide +kernel
theorem dX7_dances_56 : decode cX7_dances 56 = .ok (.iastore, 1) := by decide +kernel
theorem dX7_dances_57 : decode cX7_dances 57 = .ok (.aload_n 0, 1) := by decide +kernel
theorem dX7_dances_58 : decode cX7_dances 58 = .ok (.iload_n 1, 1) := by decide +kernel
theorem dX7_dances_59 : decode cX7_dances 59 = .ok (.iload_n 2, 1) := by decide +kernel
theorem dX7_dances_60 : decode cX7_dances 60 = .ok (.invokevirtual 116, 3) := by decide +kernel
theorem dX7_dances_63 : decode cX7_dances 63 = .ok (.return_, 1) := by decide +kernel
theorem dX7_lowest_0 : decode cX7_lowest 0 = .ok (.iconst 0, 1) := by decide +kernel
theorem dX7_lowest_1 : decode cX7_lowest 1 = .ok (.istore_n 1, 1) := by decide +kernel
theorem dX7_lowest_2 : decode cX7_lowest 2 = .ok (.iload_n 0, 1) := by decide +kernel
theorem dX7_lowest_3 : decode cX7_lowest 3 = .ok (.iload_n 1, 1) := by decide +kernel
theorem dX7_lowest_4 : decode cX7_lowest 4 = .ok (.ishr, 1) := by decide +kernel
theorem dX7_lowest_5 : decode cX7_lowest 5 = .ok (.iconst 1, 1) := by decide +kernel
theorem dX7_lowest_6 : decode cX7_lowest 6 = .ok (.iand, 1) := by decide +kernel
theorem dX7_lowest_7 : decode cX7_lowest 7 = .ok (.ifCond .ne 9, 3) := by decide +kernel
theorem dX7_lowest_10 : decode cX7_lowest 10 = .ok (.iinc 1 1, 3) := by decide +kernel
theorem dX7_lowest_13 : decode cX7_lowest 13 = .ok (.goto (-11), 3) := by decide +kernel
theorem dX7_lowest_16 : decode cX7_lowest 16 = .ok (.iload_n 1, 1) := by decide +kernel
theorem dX7_lowest_17 : decode cX7_lowest 17 = .ok (.ireturn, 1) := by decide +kernel
set_option maxRecDepth 20000 in
theorem ggX7_dancesByLeast_X7_bringersOf : GoodIn wsX7_dancesByLeast wsX7_bringersOf := goodIn_r _ [5, 6, 7, 8, 9, 10, 4, 11, 12, 13, 14, 15, 16, 17, 18, 19, 20, 21, 22, 34, 35, 36, 37, 38, 39, 40, 41, 42, 43, 44, 45, 46, 47, 48, 49, 50, 51, 52, 53, 54, 55, 56, 57, 58, 59, 60, 61, 62, 63, 64, 65, 66] (by decide +kernel) (by decide +kernel)
set_option maxRecDepth 20000 in
theorem gX7_dancesByLeast_X7_bringersOf : GoodIn wsX7_dancesByLeast (wsV RX7 160 RX7 yX7_bringersOf wsX7_bringersOf) := goodIn_app (goodIn_of _ (by decide +kernel)) ggX7_dancesByLeast_X7_bringersOf
set_option maxRecDepth 20000 in
theorem ggX7_dancesByLeast_X7_lowest : GoodIn wsX7_dancesByLeast wsX7_lowest := goodIn_r _ [25] (by decide +kernel) (by decide +kernel)
set_option maxRecDepth 20000 in
theorem gX7_dancesByLeast_X7_lowest : GoodIn wsX7_dancesByLeast (va_wsS RX7 164 yX7_lowest wsX7_lowest) := goodIn_app (goodIn_of _ (by decide +kernel)) ggX7_dancesByLeast_X7_lowest
set_option maxRecDepth 20000 in
theorem ggX7_dancesByLeast_X7_dances : GoodIn wsX7_dancesByLeast wsX7_dances := goodIn_r _ [29, 12, 7, 1, 2, 3, 4, 5, 6, 8, 9, 10, 11, 13, 14, 15, 16, 17, 18, 19, 20, 21, 22, 23, 24, 25, 30, 31, 32, 33, 34, 35, 36, 37, 38, 39, 40, 41, 42, 43, 44, 45, 46, 47, 48, 49, 50, 51, 52, 53, 54, 55, 56, 57, 58, 59, 60, 61, 62, 63, 64, 65, 66] (by decide +kernel) (by decide +kernel)
set_option maxRecDepth 20000 in
theorem gX7_dancesByLeast_X7_dances : GoodIn wsX7_dancesByLeast (wsV RX7 167 RX7 yX7_dances wsX7_dances) := goodIn_app (goodIn_of _ (by decide +kernel)) ggX7_dancesByLeast_X7_dances
theorem dX7_dancesByLeast_0 : decode cX7_dancesByLeast 0 = .ok (.aload_n 0, 1) := by decide +kernel
theorem dX7_dancesByLeast_1 : decode cX7_dancesByLeast 1 = .ok (.iload_n 1, 1) := by decide +kernel
theorem dX7_dancesByLeast_2 : decode cX7_dancesByLeast 2 = .ok (.iload_n 2, 1) := by decide +kernel
theorem dX7_dancesByLeast_3 : decode cX7_dancesByLeast 3 = .ok (.invokevirtual 160, 3) := by decide +kernel
theorem dX7_dancesByLeast_6 : decode cX7_dancesByLeast 6 = .ok (.istore_n 3, 1) := by decide +kernel
theorem dX7_dancesByLeast_7 : decode cX7_dancesByLeast 7 = .ok (.aload_n 0, 1) := by decide +kernel
theorem dX7_dancesByLeast_8 : decode cX7_dancesByLeast 8 = .ok (.iload_n 1, 1) := by decide +kernel
theorem dX7_dancesByLeast_9 : decode cX7_dancesByLeast 9 = .ok (.iload_n 2, 1) := by decide +kernel
theorem dX7_dancesByLeast_10 : decode cX7_dancesByLeast 10 = .ok (.iload_n 3, 1) := by decide +kernel
theorem dX7_dancesByLeast_11 : decode cX7_dancesByLeast 11 = .ok (.ifCond .ne 8, 3) := by decide +kernel
theorem dX7_dancesByLeast_14 : decode cX7_dancesByLeast 14 = .ok (.bipush 9, 2) := by decide +kernel
theorem dX7_dancesByLeast_16 : decode cX7_dancesByLeast 16 = .ok (.goto 7, 3) := by decide +kernel
theorem dX7_dancesByLeast_19 : decode cX7_dancesByLeast 19 = .ok (.iload_n 3, 1) := by decide +kernel
theorem dX7_dancesByLeast_20 : decode cX7_dancesByLeast 20 = .ok (.invokestatic 164, 3) := by decide +kernel
theorem dX7_dancesByLeast_23 : decode cX7_dancesByLeast 23 = .ok (.invokevirtual 167, 3) := by decide +kernel
theorem dX7_dancesByLeast_26 : decode cX7_dancesByLeast 26 = .ok (.return_, 1) := by decide +kernel
set_option maxRecDepth 20000 in
theorem ggX7_dancer_X7_isDancer : GoodIn wsX7_dancer wsX7_isDancer := goodIn_r _ [9, 10, 19, 20, 21, 22, 23, 24, 25, 26, 27, 28, 29, 30, 31, 32, 33, 34, 35, 36, 37, 38, 39, 40, 41, 42, 43, 44, 45, 46, 47, 48, 49, 50, 51] (by decide +kernel) (by decide +kernel)
set_option maxRecDepth 20000 in
theorem gX7_dancer_X7_isDancer : GoodIn wsX7_dancer (wsV RX7 74 RX7 yX7_isDancer wsX7_isDancer) := goodIn_app (goodIn_of _ (by decide +kernel)) ggX7_dancer_X7_isDancer
set_option maxRecDepth 20000 in
theorem ggX7_dancer_X7_no : GoodIn wsX7_dancer wsX7_no := goodIn_r _ [14, 15, 19, 20, 21, 22, 23, 24, 25, 26, 27, 28, 29, 30, 31, 32, 33, 34, 35, 36, 37, 38, 39, 40, 41, 42, 43, 44, 45, 46, 47, 48, 49, 50, 51] (by decide +kernel) (by decide +kernel)
set_option maxRecDepth 20000 in
theorem gX7_dancer_X7_no : GoodIn wsX7_dancer (wsV RX7 89 RX7 yX7_no wsX7_no) := goodIn_app (goodIn_of _ (by decide +kernel)) ggX7_dancer_X7_no
set_option maxRecDepth 20000 in
theorem ggX7_dancer_X7_bits : GoodIn wsX7_dancer wsX7_bits := goodIn_r _ [18] (by decide +kernel) (by decide +kernel)
set_option maxRecDepth 20000 in
theorem gX7_dancer_X7_bits : GoodIn wsX7_dancer (va_wsS RX7 78 yX7_bits wsX7_bits) := goodIn_app (goodIn_of _ (by decide +kernel)) ggX7_dancer_X7_bits
theorem dX7_dancer_0 : decode cX7_dancer 0 = .ok (.aload_n 0, 1) := by decide +kernel
theorem dX7_dancer_1 : decode cX7_dancer 1 = .ok (.iload_n 1, 1) := by decide +kernel
theorem dX7_dancer_2 : decode cX7_dancer 2 = .ok (.invokevirtual 74, 3) := by decide +kernel
theorem dX7_dancer_5 : decode cX7_dancer 5 = .ok (.ifCond .ne 9, 3) := by decide +kernel
theorem dX7_dancer_8 : decode cX7_dancer 8 = .ok (.aload_n 0, 1) := by decide +kernel
theorem dX7_dancer_9 : decode cX7_dancer 9 = .ok (.iconst (-1), 1) := by decide +kernel
theorem dX7_dancer_10 : decode cX7_dancer 10 = .ok (.invokevirtual 89, 3) := by decide +kernel
theorem dX7_dancer_13 : decode cX7_dancer 13 = .ok (.ireturn, 1) := by decide +kernel
theorem dX7_dancer_14 : decode cX7_dancer 14 = .ok (.iload_n 2, 1) := by decide +kernel
theorem dX7_dancer_15 : decode cX7_dancer 15 = .ok (.tableswitch 60 0 3 #[29, 36, 43, 50], 29) := by decide +kernel
theorem dX7_dancer_44 : decode cX7_dancer 44 = .ok (.aload_n 0, 1) := by decide +kernel
theorem dX7_dancer_45 : decode cX7_dancer 45 = .ok (.getfield 13, 3) := by decide +kernel
theorem dX7_dancer_48 : decode cX7_dancer 48 = .ok (.iload_n 1, 1) := by decide +kernel
theorem dX7_dancer_49 : decode cX7_dancer 49 = .ok (.iaload, 1) := by decide +kernel
theorem dX7_dancer_50 : decode cX7_dancer 50 = .ok (.ireturn, 1) := by decide +kernel
theorem dX7_dancer_51 : decode cX7_dancer 51 = .ok (.aload_n 0, 1) := by decide +kernel
theorem dX7_dancer_52 : decode cX7_dancer 52 = .ok (.getfield 16, 3) := by decide +kernel
theorem dX7_dancer_55 : decode cX7_dancer 55 = .ok (.iload_n 1, 1) := by decide +kernel
theorem dX7_dancer_56 : decode cX7_dancer 56 = .ok (.iaload, 1) := by decide +kernel
theorem dX7_dancer_57 : decode cX7_dancer 57 = .ok (.ireturn, 1) := by decide +kernel
theorem dX7_dancer_58 : decode cX7_dancer 58 = .ok (.aload_n 0, 1) := by decide +kernel
theorem dX7_dancer_59 : decode cX7_dancer 59 = .ok (.getfield 19, 3) := by decide +kernel
theorem dX7_dancer_62 : decode cX7_dancer 62 = .ok (.iload_n 1, 1) := by decide +kernel
theorem dX7_dancer_63 : decode cX7_dancer 63 = .ok (.iaload, 1) := by decide +kernel
theorem dX7_dancer_64 : decode cX7_dancer 64 = .ok (.ireturn, 1) := by decide +kernel
theorem dX7_dancer_65 : decode cX7_dancer 65 = .ok (.aload_n 0, 1) := by decide +kernel
theorem dX7_dancer_66 : decode cX7_dancer 66 = .ok (.getfield 22, 3) := by decide +kernel
theorem dX7_dancer_69 : decode cX7_dancer 69 = .ok (.iload_n 1, 1) := by decide +kernel
theorem dX7_dancer_70 : decode cX7_dancer 70 = .ok (.iaload, 1) := by decide +kernel
theorem dX7_dancer_71 : decode cX7_dancer 71 = .ok (.invokestatic 78, 3) := by decide +kernel
theorem dX7_dancer_74 : decode cX7_dancer 74 = .ok (.ireturn, 1) := by decide +kernel
theorem dX7_dancer_75 : decode cX7_dancer 75 = .ok (.aload_n 0, 1) := by decide +kernel
theorem dX7_dancer_76 : decode cX7_dancer 76 = .ok (.bipush (-2), 2) := by decide +kernel
theorem dX7_dancer_78 : decode cX7_dancer 78 = .ok (.invokevirtual 89, 3) := by decide +kernel
theorem dX7_dancer_81 : decode cX7_dancer 81 = .ok (.ireturn, 1) := by decide +kernel
set_option maxRecDepth 20000 in
theorem ggX7_law_X7_isIn : GoodIn wsX7_law wsX7_isIn := goodIn_r _ [5] (by decide +kernel) (by decide +kernel)
set_option maxRecDepth 20000 in
theorem gX7_law_X7_isIn : GoodIn wsX7_law (va_wsS RX7 99 yX7_isIn wsX7_isIn) := goodIn_app (goodIn_of _ (by decide +kernel)) ggX7_law_X7_isIn
set_option maxRecDepth 20000 in
theorem ggX7_law_X7_no : GoodIn wsX7_law wsX7_no := goodIn_r _ [9, 10, 11, 12, 13, 14, 15, 16, 17, 18, 19, 20, 21, 22, 23, 24, 25, 26, 27, 28, 29, 30, 31, 32, 33, 34, 35, 36, 37, 38, 39, 40, 41, 42, 43] (by decide +kernel) (by decide +kernel)
set_option maxRecDepth 20000 in
theorem gX7_law_X7_no : GoodIn wsX7_law (wsV RX7 89 RX7 yX7_no wsX7_no) := goodIn_app (goodIn_of _ (by decide +kernel)) ggX7_law_X7_no
theorem dX7_law_0 : decode cX7_law 0 = .ok (.iload_n 1, 1) := by decide +kernel
theorem dX7_law_1 : decode cX7_law 1 = .ok (.iconst 0, 1) := by decide +kernel
theorem dX7_law_2 : decode cX7_law 2 = .ok (.iconst 2, 1) := by decide +kernel
theorem dX7_law_3 : decode cX7_law 3 = .ok (.invokestatic 99, 3) := by decide +kernel
theorem dX7_law_6 : decode cX7_law 6 = .ok (.ifCond .ne 10, 3) := by decide +kernel
theorem dX7_law_9 : decode cX7_law 9 = .ok (.aload_n 0, 1) := by decide +kernel
theorem dX7_law_10 : decode cX7_law 10 = .ok (.bipush (-2), 2) := by decide +kernel
theorem dX7_law_12 : decode cX7_law 12 = .ok (.invokevirtual 89, 3) := by decide +kernel
theorem dX7_law_15 : decode cX7_law 15 = .ok (.ireturn, 1) := by decide +kernel
theorem dX7_law_16 : decode cX7_law 16 = .ok (.aload_n 0, 1) := by decide +kernel
theorem dX7_law_17 : decode cX7_law 17 = .ok (.getfield 109, 3) := by decide +kernel
theorem dX7_law_20 : decode cX7_law 20 = .ok (.istore_n 2, 1) := by decide +kernel
theorem dX7_law_21 : decode cX7_law 21 = .ok (.aload_n 0, 1) := by decide +kernel
theorem dX7_law_22 : decode cX7_law 22 = .ok (.iload_n 1, 1) := by decide +kernel
theorem dX7_law_23 : decode cX7_law 23 = .ok (.putfield 109, 3) := by decide +kernel
theorem dX7_law_26 : decode cX7_law 26 = .ok (.iload_n 2, 1) := by decide +kernel
theorem dX7_law_27 : decode cX7_law 27 = .ok (.ireturn, 1) := by decide +kernel
set_option maxRecDepth 20000 in
theorem ggX7_danced_X7_areTwo : GoodIn wsX7_danced wsX7_areTwo := goodIn_r _ [5, 6, 7, 8, 4, 9, 10, 21, 22, 23, 24, 25, 26, 27, 28, 29, 30, 31, 32, 33, 34, 35, 36, 37, 38, 39, 40, 41, 42, 43, 44, 45, 46, 47, 48, 49, 50, 51, 52, 53] (by decide +kernel) (by decide +kernel)
set_option maxRecDepth 20000 in
theorem gX7_danced_X7_areTwo : GoodIn wsX7_danced (wsV RX7 112 RX7 yX7_areTwo wsX7_areTwo) := goodIn_app (goodIn_of _ (by decide +kernel)) ggX7_danced_X7_areTwo
set_option maxRecDepth 20000 in
theorem ggX7_danced_X7_no : GoodIn wsX7_danced wsX7_no := goodIn_r _ [14, 15, 21, 22, 23, 24, 25, 26, 27, 28, 29, 30, 31, 32, 33, 34, 35, 36, 37, 38, 39, 40, 41, 42, 43, 44, 45, 46, 47, 48, 49, 50, 51, 52, 53] (by decide +kernel) (by decide +kernel)
set_option maxRecDepth 20000 in
theorem gX7_danced_X7_no : GoodIn wsX7_danced (wsV RX7 89 RX7 yX7_no wsX7_no) := goodIn_app (goodIn_of _ (by decide +kernel)) ggX7_danced_X7_no
set_option maxRecDepth 20000 in
theorem ggX7_danced_X7_haveDanced : GoodIn wsX7_danced wsX7_haveDanced := goodIn_r _ [19, 20, 21, 22, 23, 24, 25, 26, 27, 28, 29, 30, 31, 32, 33, 34, 35, 36, 37, 38, 39, 40, 41, 42, 43, 44, 45, 46, 47, 48, 49, 50, 51, 52, 53] (by decide +kernel) (by decide +kernel)
set_option maxRecDepth 20000 in
theorem gX7_danced_X7_haveDanced : GoodIn wsX7_danced (wsV RX7 151 RX7 yX7_haveDanced wsX7_haveDanced) := goodIn_app (goodIn_of _ (by decide +kernel)) ggX7_danced_X7_haveDanced
theorem dX7_danced_0 : decode cX7_danced 0 = .ok (.aload_n 0, 1) := by decide +kernel
theorem dX7_danced_1 : decode cX7_danced 1 = .ok (.iload_n 1, 1) := by decide +kernel
theorem dX7_danced_2 : decode cX7_danced 2 = .ok (.iload_n 2, 1) := by decide +kernel
theorem dX7_danced_3 : decode cX7_danced 3 = .ok (.invokevirtual 112, 3) := by decide +kernel
theorem dX7_danced_6 : decode cX7_danced 6 = .ok (.ifCond .ne 11, 3) := by decide +kernel
theorem dX7_danced_9 : decode cX7_danced 9 = .ok (.aload_n 0, 1) := by decide +kernel
theorem dX7_danced_10 : decode cX7_danced 10 = .ok (.iconst (-1), 1) := by decide +kernel
theorem dX7_danced_11 : decode cX7_danced 11 = .ok (.invokevirtual 89, 3) := by decide +kernel
theorem dX7_danced_14 : decode cX7_danced 14 = .ok (.goto 17, 3) := by decide +kernel
theorem dX7_danced_17 : decode cX7_danced 17 = .ok (.aload_n 0, 1) := by decide +kernel
theorem dX7_danced_18 : decode cX7_danced 18 = .ok (.iload_n 1, 1) := by decide +kernel
theorem dX7_danced_19 : decode cX7_danced 19 = .ok (.iload_n 2, 1) := by decide +kernel
theorem dX7_danced_20 : decode cX7_danced 20 = .ok (.invokevirtual 151, 3) := by decide +kernel
theorem dX7_danced_23 : decode cX7_danced 23 = .ok (.ifCond .eq 7, 3) := by decide +kernel
theorem dX7_danced_26 : decode cX7_danced 26 = .ok (.iconst 1, 1) := by decide +kernel
theorem dX7_danced_27 : decode cX7_danced 27 = .ok (.goto 4, 3) := by decide +kernel
theorem dX7_danced_30 : decode cX7_danced 30 = .ok (.iconst 0, 1) := by decide +kernel
theorem dX7_danced_31 : decode cX7_danced 31 = .ok (.ireturn, 1) := by decide +kernel
set_option maxRecDepth 20000 in
theorem ggX7_bringers_X7_areTwo : GoodIn wsX7_bringers wsX7_areTwo := goodIn_r _ [5, 6, 7, 8, 4, 9, 10, 36, 37, 38, 39, 40, 41, 42, 43, 44, 45, 46, 47, 48, 49, 50, 51, 52, 53, 54, 55, 56, 57, 58, 59, 60, 61, 62, 63, 64, 65, 66, 67, 68] (by decide +kernel) (by decide +kernel)
set_option maxRecDepth 20000 in
theorem gX7_bringers_X7_areTwo : GoodIn wsX7_bringers (wsV RX7 112 RX7 yX7_areTwo wsX7_areTwo) := goodIn_app (goodIn_of _ (by decide +kernel)) ggX7_bringers_X7_areTwo
set_option maxRecDepth 20000 in
theorem ggX7_bringers_X7_bringersOf : GoodIn wsX7_bringers wsX7_bringersOf := goodIn_r _ [14, 10, 15, 16, 17, 18, 4, 19, 20, 21, 22, 23, 24, 25, 26, 27, 28, 29, 30, 36, 37, 38, 39, 40, 41, 42, 43, 44, 45, 46, 47, 48, 49, 50, 51, 52, 53, 54, 55, 56, 57, 58, 59, 60, 61, 62, 63, 64, 65, 66, 67, 68] (by decide +kernel) (by decide +kernel)
set_option maxRecDepth 20000 in
theorem gX7_bringers_X7_bringersOf : GoodIn wsX7_bringers (wsV RX7 160 RX7 yX7_bringersOf wsX7_bringersOf) := goodIn_app (goodIn_of _ (by decide +kernel)) ggX7_bringers_X7_bringersOf
set_option maxRecDepth 20000 in
theorem ggX7_bringers_X7_no : GoodIn wsX7_bringers wsX7_no := goodIn_r _ [34, 35, 36, 37, 38, 39, 40, 41, 42, 43, 44, 45, 46, 47, 48, 49, 50, 51, 52, 53, 54, 55, 56, 57, 58, 59, 60, 61, 62, 63, 64, 65, 66, 67, 68] (by decide +kernel) (by decide +kernel)
set_option maxRecDepth 20000 in
theorem gX7_bringers_X7_no : GoodIn wsX7_bringers (wsV RX7 89 RX7 yX7_no wsX7_no) := goodIn_app (goodIn_of _ (by decide +kernel)) ggX7_bringers_X7_no
theorem dX7_bringers_0 : decode cX7_bringers 0 = .ok (.aload_n 0, 1) := by decide +kernel
theorem dX7_bringers_1 : decode cX7_bringers 1 = .ok (.iload_n 1, 1) := by decide +kernel
theorem dX7_bringers_2 : decode cX7_bringers 2 = .ok (.iload_n 2, 1) := by decide +kernel
theorem dX7_bringers_3 : decode cX7_bringers 3 = .ok (.invokevirtual 112, 3) := by decide +kernel
theorem dX7_bringers_6 : decode cX7_bringers 6 = .ok (.ifCond .eq 12, 3) := by decide +kernel
theorem dX7_bringers_9 : decode cX7_bringers 9 = .ok (.aload_n 0, 1) := by decide +kernel
theorem dX7_bringers_10 : decode cX7_bringers 10 = .ok (.iload_n 1, 1) := by decide +kernel
theorem dX7_bringers_11 : decode cX7_bringers 11 = .ok (.iload_n 2, 1) := by decide +kernel
theorem dX7_bringers_12 : decode cX7_bringers 12 = .ok (.invokevirtual 160, 3) := by decide +kernel
theorem dX7_bringers_15 : decode cX7_bringers 15 = .ok (.goto 8, 3) := by decide +kernel
theorem dX7_bringers_18 : decode cX7_bringers 18 = .ok (.aload_n 0, 1) := by decide +kernel
theorem dX7_bringers_19 : decode cX7_bringers 19 = .ok (.iconst (-1), 1) := by decide +kernel
theorem dX7_bringers_20 : decode cX7_bringers 20 = .ok (.invokevirtual 89, 3) := by decide +kernel
theorem dX7_bringers_23 : decode cX7_bringers 23 = .ok (.ireturn, 1) := by decide +kernel
set_option maxRecDepth 20000 in
theorem ggX7_may_X7_areTwo : GoodIn wsX7_may wsX7_areTwo := goodIn_r _ [5, 6, 7, 8, 4, 9, 10, 44, 45, 46, 47, 48, 49, 50, 51, 52, 53, 54, 55, 56, 57, 58, 59, 60, 61, 62, 63, 64, 65, 66, 67, 68, 69, 70, 71, 72, 73, 74, 75, 76] (by decide +kernel) (by decide +kernel)
set_option maxRecDepth 20000 in
theorem gX7_may_X7_areTwo : GoodIn wsX7_may (wsV RX7 112 RX7 yX7_areTwo wsX7_areTwo) := goodIn_app (goodIn_of _ (by decide +kernel)) ggX7_may_X7_areTwo
set_option maxRecDepth 20000 in
theorem ggX7_may_X7_no : GoodIn wsX7_may wsX7_no := goodIn_r _ [14, 15, 44, 45, 46, 47, 48, 49, 50, 51, 52, 53, 54, 55, 56, 57, 58, 59, 60, 61, 62, 63, 64, 65, 66, 67, 68, 69, 70, 71, 72, 73, 74, 75, 76] (by decide +kernel) (by decide +kernel)
set_option maxRecDepth 20000 in
theorem gX7_may_X7_no : GoodIn wsX7_may (wsV RX7 89 RX7 yX7_no wsX7_no) := goodIn_app (goodIn_of _ (by decide +kernel)) ggX7_may_X7_no
set_option maxRecDepth 20000 in
theorem ggX7_may_X7_mayDance : GoodIn wsX7_may wsX7_mayDance := goodIn_r _ [19, 20, 21, 22, 23, 4, 24, 25, 26, 27, 28, 29, 30, 31, 32, 33, 34, 35, 10, 36, 37, 38, 39, 40, 41, 42, 43, 44, 45, 46, 47, 48, 49, 50, 51, 52, 53, 54, 55, 56, 57, 58, 59, 60, 61, 62, 63, 64, 65, 66, 67, 68, 69, 70, 71, 72, 73, 74, 75, 76] (by decide +kernel) (by decide +kernel)
set_option maxRecDepth 20000 in
theorem gX7_may_X7_mayDance : GoodIn wsX7_may (wsV RX7 171 RX7 yX7_mayDance wsX7_mayDance) := goodIn_app (goodIn_of _ (by decide +kernel)) ggX7_may_X7_mayDance
theorem dX7_may_0 : decode cX7_may 0 = .ok (.aload_n 0, 1) := by decide +kernel
theorem dX7_may_1 : decode cX7_may 1 = .ok (.iload_n 1, 1) := by decide +kernel
theorem dX7_may_2 : decode cX7_may 2 = .ok (.iload_n 2, 1) := by decide +kernel
theorem dX7_may_3 : decode cX7_may 3 = .ok (.invokevirtual 112, 3) := by decide +kernel
theorem dX7_may_6 : decode cX7_may 6 = .ok (.ifCond .ne 11, 3) := by decide +kernel
theorem dX7_may_9 : decode cX7_may 9 = .ok (.aload_n 0, 1) := by decide +kernel
theorem dX7_may_10 : decode cX7_may 10 = .ok (.iconst (-1), 1) := by decide +kernel
theorem dX7_may_11 : decode cX7_may 11 = .ok (.invokevirtual 89, 3) := by decide +kernel
theorem dX7_may_14 : decode cX7_may 14 = .ok (.goto 17, 3) := by decide +kernel
theorem dX7_may_17 : decode cX7_may 17 = .ok (.aload_n 0, 1) := by decide +kernel
theorem dX7_may_18 : decode cX7_may 18 = .ok (.iload_n 1, 1) := by decide +kernel
theorem dX7_may_19 : decode cX7_may 19 = .ok (.iload_n 2, 1) := by decide +kernel
theorem dX7_may_20 : decode cX7_may 20 = .ok (.invokevirtual 171, 3) := by decide +kernel
theorem dX7_may_23 : decode cX7_may 23 = .ok (.ifCond .eq 7, 3) := by decide +kernel
theorem dX7_may_26 : decode cX7_may 26 = .ok (.iconst 1, 1) := by decide +kernel
theorem dX7_may_27 : decode cX7_may 27 = .ok (.goto 4, 3) := by decide +kernel
theorem dX7_may_30 : decode cX7_may 30 = .ok (.iconst 0, 1) := by decide +kernel
theorem dX7_may_31 : decode cX7_may 31 = .ok (.ireturn, 1) := by decide +kernel
set_option maxRecDepth 20000 in
theorem ggX7_canBy_X7_areCousins : GoodIn wsX7_canBy wsX7_areCousins := goodIn_r _ [5, 6, 7, 31, 32, 33, 34, 35, 36, 37, 38, 39, 40, 41, 42, 43, 44, 45, 46, 47, 48, 49, 50, 51, 52, 53, 54, 55, 56, 57, 58, 59, 60, 61, 62, 63] (by decide +kernel) (by decide +kernel)
set_option maxRecDepth 20000 in
theorem gX7_canBy_X7_areCousins : GoodIn wsX7_canBy (wsV RX7 157 RX7 yX7_areCousins wsX7_areCousins) := goodIn_app (goodIn_of _ (by decide +kernel)) ggX7_canBy_X7_areCousins
set_option maxRecDepth 20000 in
theorem ggX7_canBy_X7_isDancer : GoodIn wsX7_canBy wsX7_isDancer := goodIn_r _ [11, 12, 31, 32, 33, 34, 35, 36, 37, 38, 39, 40, 41, 42, 43, 44, 45, 46, 47, 48, 49, 50, 51, 52, 53, 54, 55, 56, 57, 58, 59, 60, 61, 62, 63] (by decide +kernel) (by decide +kernel)
set_option maxRecDepth 20000 in
theorem gX7_canBy_X7_isDancer : GoodIn wsX7_canBy (wsV RX7 74 RX7 yX7_isDancer wsX7_isDancer) := goodIn_app (goodIn_of _ (by decide +kernel)) ggX7_canBy_X7_isDancer
set_option maxRecDepth 20000 in
theorem ggX7_canBy_X7_bringersOf : GoodIn wsX7_canBy wsX7_bringersOf := goodIn_r _ [16, 12, 17, 18, 19, 20, 4, 21, 22, 7, 6, 23, 24, 25, 26, 27, 28, 29, 30, 31, 32, 33, 34, 35, 36, 37, 38, 39, 40, 41, 42, 43, 44, 45, 46, 47, 48, 49, 50, 51, 52, 53, 54, 55, 56, 57, 58, 59, 60, 61, 62, 63] (by decide +kernel) (by decide +kernel)
set_option maxRecDepth 20000 in
theorem gX7_canBy_X7_bringersOf : GoodIn wsX7_canBy (wsV RX7 160 RX7 yX7_bringersOf wsX7_bringersOf) := goodIn_app (goodIn_of _ (by decide +kernel)) ggX7_canBy_X7_bringersOf
theorem dX7_canBy_0 : decode cX7_canBy 0 = .ok (.iload_n 3, 1) := by decide +kernel
theorem dX7_canBy_1 : decode cX7_canBy 1 = .ok (.bipush 9, 2) := by decide +kernel
theorem dX7_canBy_3 : decode cX7_canBy 3 = .ok (.if_icmp .ne 12, 3) := by decide +kernel
theorem dX7_canBy_6 : decode cX7_canBy 6 = .ok (.aload_n 0, 1) := by decide +kernel
theorem dX7_canBy_7 : decode cX7_canBy 7 = .ok (.iload_n 1, 1) := by decide +kernel
theorem dX7_canBy_8 : decode cX7_canBy 8 = .ok (.iload_n 2, 1) := by decide +kernel
theorem dX7_canBy_9 : decode cX7_canBy 9 = .ok (.invokevirtual 157, 3) := by decide +kernel
theorem dX7_canBy_12 : decode cX7_canBy 12 = .ok (.goto 30, 3) := by decide +kernel
theorem dX7_canBy_15 : decode cX7_canBy 15 = .ok (.aload_n 0, 1) := by decide +kernel
theorem dX7_canBy_16 : decode cX7_canBy 16 = .ok (.iload_n 3, 1) := by decide +kernel
theorem dX7_canBy_17 : decode cX7_canBy 17 = .ok (.invokevirtual 74, 3) := by decide +kernel
theorem dX7_canBy_20 : decode cX7_canBy 20 = .ok (.ifCond .eq 21, 3) := by decide +kernel
theorem dX7_canBy_23 : decode cX7_canBy 23 = .ok (.aload_n 0, 1) := by decide +kernel
theorem dX7_canBy_24 : decode cX7_canBy 24 = .ok (.iload_n 1, 1) := by decide +kernel
theorem dX7_canBy_25 : decode cX7_canBy 25 = .ok (.iload_n 2, 1) := by decide +kernel
theorem dX7_canBy_26 : decode cX7_canBy 26 = .ok (.invokevirtual 160, 3) := by decide +kernel
theorem dX7_canBy_29 : decode cX7_canBy 29 = .ok (.iload_n 3, 1) := by decide +kernel
theorem dX7_canBy_30 : decode cX7_canBy 30 = .ok (.ishr, 1) := by decide +kernel
theorem dX7_canBy_31 : decode cX7_canBy 31 = .ok (.iconst 1, 1) := by decide +kernel
theorem dX7_canBy_32 : decode cX7_canBy 32 = .ok (.iand, 1) := by decide +kernel
theorem dX7_canBy_33 : decode cX7_canBy 33 = .ok (.iconst 1, 1) := by decide +kernel
theorem dX7_canBy_34 : decode cX7_canBy 34 = .ok (.if_icmp .ne 7, 3) := by decide +kernel
theorem dX7_canBy_37 : decode cX7_canBy 37 = .ok (.iconst 1, 1) := by decide +kernel
theorem dX7_canBy_38 : decode cX7_canBy 38 = .ok (.goto 4, 3) := by decide +kernel
theorem dX7_canBy_41 : decode cX7_canBy 41 = .ok (.iconst 0, 1) := by decide +kernel
theorem dX7_canBy_42 : decode cX7_canBy 42 = .ok (.ireturn, 1) := by decide +kernel
set_option maxRecDepth 20000 in
theorem ggX7_dance_X7_areTwo : GoodIn wsX7_dance wsX7_areTwo := goodIn_r _ [5, 6, 7, 8, 4, 9, 10, 63, 64, 65, 66, 67, 68, 69, 70, 71, 72, 73, 74, 75, 76, 77, 78, 79, 80, 81, 82, 83, 84, 85, 86, 87, 88, 89, 90, 91, 92, 93, 94, 95] (by decide +kernel) (by decide +kernel)
set_option maxRecDepth 20000 in
theorem gX7_dance_X7_areTwo : GoodIn wsX7_dance (wsV RX7 112 RX7 yX7_areTwo wsX7_areTwo) := goodIn_app (goodIn_of _ (by decide +kernel)) ggX7_dance_X7_areTwo
set_option maxRecDepth 20000 in
theorem ggX7_dance_X7_no : GoodIn wsX7_dance wsX7_no := goodIn_r _ [14, 15, 63, 64, 65, 66, 67, 68, 69, 70, 71, 72, 73, 74, 75, 76, 77, 78, 79, 80, 81, 82, 83, 84, 85, 86, 87, 88, 89, 90, 91, 92, 93, 94, 95] (by decide +kernel) (by decide +kernel)
set_option maxRecDepth 20000 in
theorem gX7_dance_X7_no : GoodIn wsX7_dance (wsV RX7 89 RX7 yX7_no wsX7_no) := goodIn_app (goodIn_of _ (by decide +kernel)) ggX7_dance_X7_no
set_option maxRecDepth 20000 in
theorem ggX7_dance_X7_mayDance : GoodIn wsX7_dance wsX7_mayDance := goodIn_r _ [19, 20, 21, 22, 23, 4, 24, 25, 26, 27, 28, 29, 30, 31, 32, 33, 34, 35, 10, 36, 37, 38, 39, 40, 41, 42, 43, 63, 64, 65, 66, 67, 68, 69, 70, 71, 72, 73, 74, 75, 76, 77, 78, 79, 80, 81, 82, 83, 84, 85, 86, 87, 88, 89, 90, 91, 92, 93, 94, 95] (by decide +kernel) (by decide +kernel)
set_option maxRecDepth 20000 in
theorem gX7_dance_X7_mayDance : GoodIn wsX7_dance (wsV RX7 171 RX7 yX7_mayDance wsX7_mayDance) := goodIn_app (goodIn_of _ (by decide +kernel)) ggX7_dance_X7_mayDance
set_option maxRecDepth 20000 in
theorem ggX7_dance_X7_canBy : GoodIn wsX7_dance wsX7_canBy := goodIn_r _ [47, 26, 27, 28, 4, 29, 30, 31, 6, 7, 8, 9, 10, 32, 33, 34, 35, 20, 36, 37, 38, 39, 40, 25, 21, 22, 23, 24, 41, 42, 43, 63, 64, 65, 66, 67, 68, 69, 70, 71, 72, 73, 74, 75, 76, 77, 78, 79, 80, 81, 82, 83, 84, 85, 86, 87, 88, 89, 90, 91, 92, 93, 94, 95] (by decide +kernel) (by decide +kernel)
set_option maxRecDepth 20000 in
theorem gX7_dance_X7_canBy : GoodIn wsX7_dance (wsV RX7 174 RX7 yX7_canBy wsX7_canBy) := goodIn_app (goodIn_of _ (by decide +kernel)) ggX7_dance_X7_canBy
set_option maxRecDepth 20000 in
theorem ggX7_dance_X7_dances : GoodIn wsX7_dance wsX7_dances := goodIn_r _ [51, 40, 20, 32, 33, 34, 4, 35, 10, 36, 37, 38, 39, 31, 30, 25, 21, 22, 23, 24, 41, 42, 43, 52, 53, 54, 55, 56, 57, 58, 63, 64, 65, 66, 67, 68, 69, 70, 71, 72, 73, 74, 75, 76, 77, 78, 79, 80, 81, 82, 83, 84, 85, 86, 87, 88, 89, 90, 91, 92, 93, 94, 95] (by decide +kernel) (by decide +kernel)
set_option maxRecDepth 20000 in
theorem gX7_dance_X7_dances : GoodIn wsX7_dance (wsV RX7 167 RX7 yX7_dances wsX7_dances) := goodIn_app (goodIn_of _ (by decide +kernel)) ggX7_dance_X7_dances
set_option maxRecDepth 20000 in
theorem ggX7_dance_X7_pairsDanced : GoodIn wsX7_dance wsX7_pairsDanced := goodIn_r _ [62, 10, 25, 41, 42, 4, 43, 63, 64, 65, 66, 67, 68, 69, 70, 71, 72, 73, 74, 75, 76, 77, 78, 79, 80, 81, 82, 83, 84, 85, 86, 87, 88, 89, 90, 91, 92, 93, 94, 95] (by decide +kernel) (by decide +kernel)
set_option maxRecDepth 20000 in
theorem gX7_dance_X7_pairsDanced : GoodIn wsX7_dance (wsV RX7 148 RX7 yX7_pairsDanced wsX7_pairsDanced) := goodIn_app (goodIn_of _ (by decide +kernel)) ggX7_dance_X7_pairsDanced
theorem dX7_dance_0 : decode cX7_dance 0 = .ok (.aload_n 0, 1) := by decide +kernel
theorem dX7_dance_1 : decode cX7_dance 1 = .ok (.iload_n 1, 1) := by decide +kernel
theorem dX7_dance_2 : decode cX7_dance 2 = .ok (.iload_n 2, 1) := by decide +kernel
theorem dX7_dance_3 : decode cX7_dance 3 = .ok (.invokevirtual 112, 3) := by decide +kernel
theorem dX7_dance_6 : decode cX7_dance 6 = .ok (.ifCond .ne 9, 3) := by decide +kernel
theorem dX7_dance_9 : decode cX7_dance 9 = .ok (.aload_n 0, 1) := by decide +kernel
theorem dX7_dance_10 : decode cX7_dance 10 = .ok (.iconst (-1), 1) := by decide +kernel
theorem dX7_dance_11 : decode cX7_dance 11 = .ok (.invokevirtual 89, 3) := by decide +kernel
theorem dX7_dance_14 : decode cX7_dance 14 = .ok (.ireturn, 1) := by decide +kernel
theorem dX7_dance_15 : decode cX7_dance 15 = .ok (.aload_n 0, 1) := by decide +kernel
theorem dX7_dance_16 : decode cX7_dance 16 = .ok (.iload_n 1, 1) := by decide +kernel
theorem dX7_dance_17 : decode cX7_dance 17 = .ok (.iload_n 2, 1) := by decide +kernel
theorem dX7_dance_18 : decode cX7_dance 18 = .ok (.invokevirtual 171, 3) := by decide +kernel
theorem dX7_dance_21 : decode cX7_dance 21 = .ok (.ifCond .eq 13, 3) := by decide +kernel
theorem dX7_dance_24 : decode cX7_dance 24 = .ok (.aload_n 0, 1) := by decide +kernel
theorem dX7_dance_25 : decode cX7_dance 25 = .ok (.iload_n 1, 1) := by decide +kernel
theorem dX7_dance_26 : decode cX7_dance 26 = .ok (.iload_n 2, 1) := by decide +kernel
theorem dX7_dance_27 : decode cX7_dance 27 = .ok (.iload_n 3, 1) := by decide +kernel
theorem dX7_dance_28 : decode cX7_dance 28 = .ok (.invokevirtual 174, 3) := by decide +kernel
theorem dX7_dance_31 : decode cX7_dance 31 = .ok (.ifCond .ne 10, 3) := by decide +kernel
theorem dX7_dance_34 : decode cX7_dance 34 = .ok (.aload_n 0, 1) := by decide +kernel
theorem dX7_dance_35 : decode cX7_dance 35 = .ok (.bipush (-3), 2) := by decide +kernel
theorem dX7_dance_37 : decode cX7_dance 37 = .ok (.invokevirtual 89, 3) := by decide +kernel
theorem dX7_dance_40 : decode cX7_dance 40 = .ok (.ireturn, 1) := by decide +kernel
theorem dX7_dance_41 : decode cX7_dance 41 = .ok (.aload_n 0, 1) := by decide +kernel
theorem dX7_dance_42 : decode cX7_dance 42 = .ok (.iload_n 1, 1) := by decide +kernel
theorem dX7_dance_43 : decode cX7_dance 43 = .ok (.iload_n 2, 1) := by decide +kernel
theorem dX7_dance_44 : decode cX7_dance 44 = .ok (.iload_n 3, 1) := by decide +kernel
theorem dX7_dance_45 : decode cX7_dance 45 = .ok (.invokevirtual 167, 3) := by decide +kernel
theorem dX7_dance_48 : decode cX7_dance 48 = .ok (.aload_n 0, 1) := by decide +kernel
theorem dX7_dance_49 : decode cX7_dance 49 = .ok (.invokevirtual 148, 3) := by decide +kernel
theorem dX7_dance_52 : decode cX7_dance 52 = .ok (.ireturn, 1) := by decide +kernel
theorem dX7_night_0 : decode cX7_night 0 = .ok (.iconst 0, 1) := by decide +kernel
theorem dX7_night_1 : decode cX7_night 1 = .ok (.istore_n 1, 1) := by decide +kernel
theorem dX7_night_2 : decode cX7_night 2 = .ok (.iconst 0, 1) := by decide +kernel
theorem dX7_night_3 : decode cX7_night 3 = .ok (.istore_n 2, 1) := by decide +kernel
theorem dX7_night_4 : decode cX7_night 4 = .ok (.iload_n 2, 1) := by decide +kernel
theorem dX7_night_5 : decode cX7_night 5 = .ok (.aload_n 0, 1) := by decide +kernel
theorem dX7_night_6 : decode cX7_night 6 = .ok (.getfield 70, 3) := by decide +kernel
theorem dX7_night_9 : decode cX7_night 9 = .ok (.if_icmp .ge 33, 3) := by decide +kernel
theorem dX7_night_12 : decode cX7_night 12 = .ok (.iload_n 1, 1) := by decide +kernel
theorem dX7_night_13 : decode cX7_night 13 = .ok (.aload_n 0, 1) := by decide +kernel
theorem dX7_night_14 : decode cX7_night 14 = .ok (.getfield 19, 3) := by decide +kernel
theorem dX7_night_17 : decode cX7_night 17 = .ok (.iload_n 2, 1) := by decide +kernel
theorem dX7_night_18 : decode cX7_night 18 = .ok (.iaload, 1) := by decide +kernel
theorem dX7_night_19 : decode cX7_night 19 = .ok (.ifCond .le 7, 3) := by decide +kernel
theorem dX7_night_22 : decode cX7_night 22 = .ok (.iconst 1, 1) := by decide +kernel
theorem dX7_night_23 : decode cX7_night 23 = .ok (.goto 4, 3) := by decide +kernel
theorem dX7_night_26 : decode cX7_night 26 = .ok (.iconst 0, 1) := by decide +kernel
theorem dX7_night_27 : decode cX7_night 27 = .ok (.iadd, 1) := by decide +kernel
theorem dX7_night_28 : decode cX7_night 28 = .ok (.istore_n 1, 1) := by decide +kernel
theorem dX7_night_29 : decode cX7_night 29 = .ok (.aload_n 0, 1) := by decide +kernel
theorem dX7_night_30 : decode cX7_night 30 = .ok (.getfield 19, 3) := by decide +kernel
theorem dX7_night_33 : decode cX7_night 33 = .ok (.iload_n 2, 1) := by decide +kernel
theorem dX7_night_34 : decode cX7_night 34 = .ok (.iconst 0, 1) := by decide +kernel
theorem dX7_night_35 : decode cX7_night 35 = .ok (.iastore, 1) := by decide +kernel
theorem dX7_night_36 : decode cX7_night 36 = .ok (.iinc 2 1, 3) := by decide +kernel
theorem dX7_night_39 : decode cX7_night 39 = .ok (.goto (-35), 3) := by decide +kernel
theorem dX7_night_42 : decode cX7_night 42 = .ok (.iload_n 1, 1) := by decide +kernel
theorem dX7_night_43 : decode cX7_night 43 = .ok (.ireturn, 1) := by decide +kernel
set_option maxRecDepth 20000 in
theorem ggX7_plainBringers_X7_bits : GoodIn wsX7_plainBringers wsX7_bits := goodIn_r _ [5] (by decide +kernel) (by decide +kernel)
set_option maxRecDepth 20000 in
theorem gX7_plainBringers_X7_bits : GoodIn wsX7_plainBringers (va_wsS RX7 78 yX7_bits wsX7_bits) := goodIn_app (goodIn_of _ (by decide +kernel)) ggX7_plainBringers_X7_bits
theorem dX7_plainBringers_0 : decode cX7_plainBringers 0 = .ok (.aload_n 0, 1) := by decide +kernel
theorem dX7_plainBringers_1 : decode cX7_plainBringers 1 = .ok (.getfield 43, 3) := by decide +kernel
theorem dX7_plainBringers_4 : decode cX7_plainBringers 4 = .ok (.iload_n 1, 1) := by decide +kernel
theorem dX7_plainBringers_5 : decode cX7_plainBringers 5 = .ok (.iaload, 1) := by decide +kernel
theorem dX7_plainBringers_6 : decode cX7_plainBringers 6 = .ok (.aload_n 0, 1) := by decide +kernel
theorem dX7_plainBringers_7 : decode cX7_plainBringers 7 = .ok (.getfield 43, 3) := by decide +kernel
theorem dX7_plainBringers_10 : decode cX7_plainBringers 10 = .ok (.iload_n 2, 1) := by decide +kernel
theorem dX7_plainBringers_11 : decode cX7_plainBringers 11 = .ok (.iaload, 1) := by decide +kernel
theorem dX7_plainBringers_12 : decode cX7_plainBringers 12 = .ok (.iand, 1) := by decide +kernel
theorem dX7_plainBringers_13 : decode cX7_plainBringers 13 = .ok (.iload 4, 2) := by decide +kernel
theorem dX7_plainBringers_15 : decode cX7_plainBringers 15 = .ok (.ifCond .ge 7, 3) := by decide +kernel
theorem dX7_plainBringers_18 : decode cX7_plainBringers 18 = .ok (.iconst 0, 1) := by decide +kernel
theorem dX7_plainBringers_19 : decode cX7_plainBringers 19 = .ok (.goto 7, 3) := by decide +kernel
theorem dX7_plainBringers_22 : decode cX7_plainBringers 22 = .ok (.iconst 1, 1) := by decide +kernel
theorem dX7_plainBringers_23 : decode cX7_plainBringers 23 = .ok (.iload 4, 2) := by decide +kernel
theorem dX7_plainBringers_25 : decode cX7_plainBringers 25 = .ok (.ishl, 1) := by decide +kernel
theorem dX7_plainBringers_26 : decode cX7_plainBringers 26 = .ok (.iconst (-1), 1) := by decide +kernel
theorem dX7_plainBringers_27 : decode cX7_plainBringers 27 = .ok (.ixor, 1) := by decide +kernel
theorem dX7_plainBringers_28 : decode cX7_plainBringers 28 = .ok (.iand, 1) := by decide +kernel
theorem dX7_plainBringers_29 : decode cX7_plainBringers 29 = .ok (.istore 5, 2) := by decide +kernel
theorem dX7_plainBringers_31 : decode cX7_plainBringers 31 = .ok (.iload_n 3, 1) := by decide +kernel
theorem dX7_plainBringers_32 : decode cX7_plainBringers 32 = .ok (.iconst 2, 1) := by decide +kernel
theorem dX7_plainBringers_33 : decode cX7_plainBringers 33 = .ok (.if_icmp .ne 22, 3) := by decide +kernel
theorem dX7_plainBringers_36 : decode cX7_plainBringers 36 = .ok (.iload 5, 2) := by decide +kernel
theorem dX7_plainBringers_38 : decode cX7_plainBringers 38 = .ok (.iconst 1, 1) := by decide +kernel
theorem dX7_plainBringers_39 : decode cX7_plainBringers 39 = .ok (.iload_n 1, 1) := by decide +kernel
theorem dX7_plainBringers_40 : decode cX7_plainBringers 40 = .ok (.iload_n 2, 1) := by decide +kernel
theorem dX7_plainBringers_41 : decode cX7_plainBringers 41 = .ok (.if_icmp .ge 7, 3) := by decide +kernel
theorem dX7_plainBringers_44 : decode cX7_plainBringers 44 = .ok (.iload_n 1, 1) := by decide +kernel
theorem dX7_plainBringers_45 : decode cX7_plainBringers 45 = .ok (.goto 4, 3) := by decide +kernel
theorem dX7_plainBringers_48 : decode cX7_plainBringers 48 = .ok (.iload_n 2, 1) := by decide +kernel
theorem dX7_plainBringers_49 : decode cX7_plainBringers 49 = .ok (.ishl, 1) := by decide +kernel
theorem dX7_plainBringers_50 : decode cX7_plainBringers 50 = .ok (.iconst 1, 1) := by decide +kernel
theorem dX7_plainBringers_51 : decode cX7_plainBringers 51 = .ok (.isub, 1) := by decide +kernel
theorem dX7_plainBringers_52 : decode cX7_plainBringers 52 = .ok (.iand, 1) := by decide +kernel
theorem dX7_plainBringers_53 : decode cX7_plainBringers 53 = .ok (.istore 5, 2) := by decide +kernel
theorem dX7_plainBringers_55 : decode cX7_plainBringers 55 = .ok (.iload 5, 2) := by decide +kernel
theorem dX7_plainBringers_57 : decode cX7_plainBringers 57 = .ok (.invokestatic 78, 3) := by decide +kernel
theorem dX7_plainBringers_60 : decode cX7_plainBringers 60 = .ok (.ireturn, 1) := by decide +kernel
set_option maxRecDepth 20000 in
theorem ggX7_goesRound_X7_areCousins : GoodIn wsX7_goesRound wsX7_areCousins := goodIn_r _ [10, 11, 12, 20, 21, 22, 23, 24, 25, 26, 27, 28, 29, 30, 31, 32, 33, 34, 35, 36, 37, 38, 39, 40, 41, 42, 43, 44, 45, 46, 47, 48, 49, 50, 51, 52] (by decide +kernel) (by decide +kernel)
set_option maxRecDepth 20000 in
theorem gX7_goesRound_X7_areCousins : GoodIn wsX7_goesRound (wsV RX7 157 RX7 yX7_areCousins wsX7_areCousins) := goodIn_app (goodIn_of _ (by decide +kernel)) ggX7_goesRound_X7_areCousins
set_option maxRecDepth 20000 in
theorem ggX7_goesRound_X7_plainBringers : GoodIn wsX7_goesRound wsX7_plainBringers := goodIn_r _ [16, 3, 17, 18, 9, 19, 20, 21, 22, 23, 24, 25, 26, 27, 28, 29, 30, 31, 32, 33, 34, 35, 36, 37, 38, 39, 40, 41, 42, 43, 44, 45, 46, 47, 48, 49, 50, 51, 52] (by decide +kernel) (by decide +kernel)
set_option maxRecDepth 20000 in
theorem gX7_goesRound_X7_plainBringers : GoodIn wsX7_goesRound (wsV RX7 177 RX7 yX7_plainBringers wsX7_plainBringers) := goodIn_app (goodIn_of _ (by decide +kernel)) ggX7_goesRound_X7_plainBringers
theorem dX7_goesRound_0 : decode cX7_goesRound 0 = .ok (.iconst 0, 1) := by decide +kernel
theorem dX7_goesRound_1 : decode cX7_goesRound 1 = .ok (.istore_n 3, 1) := by decide +kernel
theorem dX7_goesRound_2 : decode cX7_goesRound 2 = .ok (.iconst 0, 1) := by decide +kernel
theorem dX7_goesRound_3 : decode cX7_goesRound 3 = .ok (.istore 4, 2) := by decide +kernel
theorem dX7_goesRound_5 : decode cX7_goesRound 5 = .ok (.iload 4, 2) := by decide +kernel
theorem dX7_goesRound_7 : decode cX7_goesRound 7 = .ok (.aload_n 0, 1) := by decide +kernel
theorem dX7_goesRound_8 : decode cX7_goesRound 8 = .ok (.getfield 70, 3) := by decide +kernel
theorem dX7_goesRound_11 : decode cX7_goesRound 11 = .ok (.if_icmp .ge 17, 3) := by decide +kernel
theorem dX7_goesRound_14 : decode cX7_goesRound 14 = .ok (.aload_n 0, 1) := by decide +kernel
theorem dX7_goesRound_15 : decode cX7_goesRound 15 = .ok (.getfield 46, 3) := by decide +kernel
theorem dX7_goesRound_18 : decode cX7_goesRound 18 = .ok (.iload 4, 2) := by decide +kernel
theorem dX7_goesRound_20 : decode cX7_goesRound 20 = .ok (.iconst 0, 1) := by decide +kernel
theorem dX7_goesRound_21 : decode cX7_goesRound 21 = .ok (.iastore, 1) := by decide +kernel
theorem dX7_goesRound_22 : decode cX7_goesRound 22 = .ok (.iinc 4 1, 3) := by decide +kernel
theorem dX7_goesRound_25 : decode cX7_goesRound 25 = .ok (.goto (-20), 3) := by decide +kernel
theorem dX7_goesRound_28 : decode cX7_goesRound 28 = .ok (.iconst 0, 1) := by decide +kernel
theorem dX7_goesRound_29 : decode cX7_goesRound 29 = .ok (.istore 4, 2) := by decide +kernel
theorem dX7_goesRound_31 : decode cX7_goesRound 31 = .ok (.iload 4, 2) := by decide +kernel
theorem dX7_goesRound_33 : decode cX7_goesRound 33 = .ok (.aload_n 0, 1) := by decide +kernel
theorem dX7_goesRound_34 : decode cX7_goesRound 34 = .ok (.getfield 70, 3) := by decide +kernel
theorem dX7_goesRound_37 : decode cX7_goesRound 37 = .ok (.if_icmp .ge 135, 3) := by decide +kernel
theorem dX7_goesRound_40 : decode cX7_goesRound 40 = .ok (.iload 4, 2) := by decide +kernel
theorem dX7_goesRound_42 : decode cX7_goesRound 42 = .ok (.iconst 1, 1) := by decide +kernel
theorem dX7_goesRound_43 : decode cX7_goesRound 43 = .ok (.iadd, 1) := by decide +kernel
theorem dX7_goesRound_44 : decode cX7_goesRound 44 = .ok (.istore 5, 2) := by decide +kernel
theorem dX7_goesRound_46 : decode cX7_goesRound 46 = .ok (.iload 5, 2) := by decide +kernel
theorem dX7_goesRound_48 : decode cX7_goesRound 48 = .ok (.aload_n 0, 1) := by decide +kernel
theorem dX7_goesRound_49 : decode cX7_goesRound 49 = .ok (.getfield 70, 3) := by decide +kernel
theorem dX7_goesRound_52 : decode cX7_goesRound 52 = .ok (.if_icmp .ge 114, 3) := by decide +kernel
theorem dX7_goesRound_55 : decode cX7_goesRound 55 = .ok (.aload_n 0, 1) := by decide +kernel
theorem dX7_goesRound_56 : decode cX7_goesRound 56 = .ok (.getfield 43, 3) := by decide +kernel
theorem dX7_goesRound_59 : decode cX7_goesRound 59 = .ok (.iload 4, 2) := by decide +kernel
theorem dX7_goesRound_61 : decode cX7_goesRound 61 = .ok (.iaload, 1) := by decide +kernel
theorem dX7_goesRound_62 : decode cX7_goesRound 62 = .ok (.iload 5, 2) := by decide +kernel
theorem dX7_goesRound_64 : decode cX7_goesRound 64 = .ok (.ishr, 1) := by decide +kernel
theorem dX7_goesRound_65 : decode cX7_goesRound 65 = .ok (.iconst 1, 1) := by decide +kernel
theorem dX7_goesRound_66 : decode cX7_goesRound 66 = .ok (.iand, 1) := by decide +kernel
theorem dX7_goesRound_67 : decode cX7_goesRound 67 = .ok (.iconst 1, 1) := by decide +kernel
theorem dX7_goesRound_68 : decode cX7_goesRound 68 = .ok (.if_icmp .ne 6, 3) := by decide +kernel
theorem dX7_goesRound_71 : decode cX7_goesRound 71 = .ok (.goto 89, 3) := by decide +kernel
theorem dX7_goesRound_74 : decode cX7_goesRound 74 = .ok (.aload_n 0, 1) := by decide +kernel
theorem dX7_goesRound_75 : decode cX7_goesRound 75 = .ok (.iload 4, 2) := by decide +kernel
theorem dX7_goesRound_77 : decode cX7_goesRound 77 = .ok (.iload 5, 2) := by decide +kernel
theorem dX7_goesRound_79 : decode cX7_goesRound 79 = .ok (.invokevirtual 157, 3) := by decide +kernel
theorem dX7_goesRound_82 : decode cX7_goesRound 82 = .ok (.ifCond .ne 29, 3) := by decide +kernel
theorem dX7_goesRound_85 : decode cX7_goesRound 85 = .ok (.aload_n 0, 1) := by decide +kernel
theorem dX7_goesRound_86 : decode cX7_goesRound 86 = .ok (.iload 4, 2) := by decide +kernel
theorem dX7_goesRound_88 : decode cX7_goesRound 88 = .ok (.iload 5, 2) := by decide +kernel
theorem dX7_goesRound_90 : decode cX7_goesRound 90 = .ok (.iload_n 1, 1) := by decide +kernel
theorem dX7_goesRound_91 : decode cX7_goesRound 91 = .ok (.iload_n 2, 1) := by decide +kernel
theorem dX7_goesRound_92 : decode cX7_goesRound 92 = .ok (.invokevirtual 177, 3) := by decide +kernel
theorem dX7_goesRound_95 : decode cX7_goesRound 95 = .ok (.iload_n 1, 1) := by decide +kernel
theorem dX7_goesRound_96 : decode cX7_goesRound 96 = .ok (.iconst 1, 1) := by decide +kernel
theorem dX7_goesRound_97 : decode cX7_goesRound 97 = .ok (.if_icmp .ne 7, 3) := by decide +kernel
theorem dX7_goesRound_100 : decode cX7_goesRound 100 = .ok (.iconst 2, 1) := by decide +kernel
theorem dX7_goesRound_101 : decode cX7_goesRound 101 = .ok (.goto 4, 3) := by decide +kernel
theorem dX7_goesRound_104 : decode cX7_goesRound 104 = .ok (.iconst 1, 1) := by decide +kernel
theorem dX7_goesRound_105 : decode cX7_goesRound 105 = .ok (.if_icmp .ge 6, 3) := by decide +kernel
theorem dX7_goesRound_108 : decode cX7_goesRound 108 = .ok (.goto 52, 3) := by decide +kernel
theorem dX7_goesRound_111 : decode cX7_goesRound 111 = .ok (.aload_n 0, 1) := by decide +kernel
theorem dX7_goesRound_112 : decode cX7_goesRound 112 = .ok (.getfield 46, 3) := by decide +kernel
theorem dX7_goesRound_115 : decode cX7_goesRound 115 = .ok (.iload 4, 2) := by decide +kernel
theorem dX7_goesRound_117 : decode cX7_goesRound 117 = .ok (.dup2, 1) := by decide +kernel
theorem dX7_goesRound_118 : decode cX7_goesRound 118 = .ok (.iaload, 1) := by decide +kernel
theorem dX7_goesRound_119 : decode cX7_goesRound 119 = .ok (.iconst 1, 1) := by decide +kernel
theorem dX7_goesRound_120 : decode cX7_goesRound 120 = .ok (.iload 5, 2) := by decide +kernel
theorem dX7_goesRound_122 : decode cX7_goesRound 122 = .ok (.ishl, 1) := by decide +kernel
theorem dX7_goesRound_123 : decode cX7_goesRound 123 = .ok (.ior, 1) := by decide +kernel
theorem dX7_goesRound_124 : decode cX7_goesRound 124 = .ok (.iastore, 1) := by decide +kernel
theorem dX7_goesRound_125 : decode cX7_goesRound 125 = .ok (.aload_n 0, 1) := by decide +kernel
theorem dX7_goesRound_126 : decode cX7_goesRound 126 = .ok (.getfield 46, 3) := by decide +kernel
theorem dX7_goesRound_129 : decode cX7_goesRound 129 = .ok (.iload 5, 2) := by decide +kernel
theorem dX7_goesRound_131 : decode cX7_goesRound 131 = .ok (.dup2, 1) := by decide +kernel
theorem dX7_goesRound_132 : decode cX7_goesRound 132 = .ok (.iaload, 1) := by decide +kernel
theorem dX7_goesRound_133 : decode cX7_goesRound 133 = .ok (.iconst 1, 1) := by decide +kernel
theorem dX7_goesRound_134 : decode cX7_goesRound 134 = .ok (.iload 4, 2) := by decide +kernel
theorem dX7_goesRound_136 : decode cX7_goesRound 136 = .ok (.ishl, 1) := by decide +kernel
theorem dX7_goesRound_137 : decode cX7_goesRound 137 = .ok (.ior, 1) := by decide +kernel
theorem dX7_goesRound_138 : decode cX7_goesRound 138 = .ok (.iastore, 1) := by decide +kernel
theorem dX7_goesRound_139 : decode cX7_goesRound 139 = .ok (.aload_n 0, 1) := by decide +kernel
theorem dX7_goesRound_140 : decode cX7_goesRound 140 = .ok (.getfield 49, 3) := by decide +kernel
theorem dX7_goesRound_143 : decode cX7_goesRound 143 = .ok (.bipush 8, 2) := by decide +kernel
theorem dX7_goesRound_145 : decode cX7_goesRound 145 = .ok (.iload 4, 2) := by decide +kernel
theorem dX7_goesRound_147 : decode cX7_goesRound 147 = .ok (.imul, 1) := by decide +kernel
theorem dX7_goesRound_148 : decode cX7_goesRound 148 = .ok (.iload 5, 2) := by decide +kernel
theorem dX7_goesRound_150 : decode cX7_goesRound 150 = .ok (.iadd, 1) := by decide +kernel
theorem dX7_goesRound_151 : decode cX7_goesRound 151 = .ok (.aload_n 0, 1) := by decide +kernel
theorem dX7_goesRound_152 : decode cX7_goesRound 152 = .ok (.getfield 181, 3) := by decide +kernel
theorem dX7_goesRound_155 : decode cX7_goesRound 155 = .ok (.iconst 1, 1) := by decide +kernel
theorem dX7_goesRound_156 : decode cX7_goesRound 156 = .ok (.iadd, 1) := by decide +kernel
theorem dX7_goesRound_157 : decode cX7_goesRound 157 = .ok (.iastore, 1) := by decide +kernel
theorem dX7_goesRound_158 : decode cX7_goesRound 158 = .ok (.iconst 1, 1) := by decide +kernel
theorem dX7_goesRound_159 : decode cX7_goesRound 159 = .ok (.istore_n 3, 1) := by decide +kernel
theorem dX7_goesRound_160 : decode cX7_goesRound 160 = .ok (.iinc 5 1, 3) := by decide +kernel
theorem dX7_goesRound_163 : decode cX7_goesRound 163 = .ok (.goto (-117), 3) := by decide +kernel
theorem dX7_goesRound_166 : decode cX7_goesRound 166 = .ok (.iinc 4 1, 3) := by decide +kernel
theorem dX7_goesRound_169 : decode cX7_goesRound 169 = .ok (.goto (-138), 3) := by decide +kernel
theorem dX7_goesRound_172 : decode cX7_goesRound 172 = .ok (.iconst 0, 1) := by decide +kernel
theorem dX7_goesRound_173 : decode cX7_goesRound 173 = .ok (.istore 4, 2) := by decide +kernel
theorem dX7_goesRound_175 : decode cX7_goesRound 175 = .ok (.iload 4, 2) := by decide +kernel
theorem dX7_goesRound_177 : decode cX7_goesRound 177 = .ok (.aload_n 0, 1) := by decide +kernel
theorem dX7_goesRound_178 : decode cX7_goesRound 178 = .ok (.getfield 70, 3) := by decide +kernel
theorem dX7_goesRound_181 : decode cX7_goesRound 181 = .ok (.if_icmp .ge 26, 3) := by decide +kernel
theorem dX7_goesRound_184 : decode cX7_goesRound 184 = .ok (.aload_n 0, 1) := by decide +kernel
theorem dX7_goesRound_185 : decode cX7_goesRound 185 = .ok (.getfield 43, 3) := by decide +kernel
theorem dX7_goesRound_188 : decode cX7_goesRound 188 = .ok (.iload 4, 2) := by decide +kernel
theorem dX7_goesRound_190 : decode cX7_goesRound 190 = .ok (.dup2, 1) := by decide +kernel
theorem dX7_goesRound_191 : decode cX7_goesRound 191 = .ok (.iaload, 1) := by decide +kernel
theorem dX7_goesRound_192 : decode cX7_goesRound 192 = .ok (.aload_n 0, 1) := by decide +kernel
theorem dX7_goesRound_193 : decode cX7_goesRound 193 = .ok (.getfield 46, 3) := by decide +kernel
theorem dX7_goesRound_196 : decode cX7_goesRound 196 = .ok (.iload 4, 2) := by decide +kernel
theorem dX7_goesRound_198 : decode cX7_goesRound 198 = .ok (.iaload, 1) := by decide +kernel
theorem dX7_goesRound_199 : decode cX7_goesRound 199 = .ok (.ior, 1) := by decide +kernel
theorem dX7_goesRound_200 : decode cX7_goesRound 200 = .ok (.iastore, 1) := by decide +kernel
theorem dX7_goesRound_201 : decode cX7_goesRound 201 = .ok (.iinc 4 1, 3) := by decide +kernel
theorem dX7_goesRound_204 : decode cX7_goesRound 204 = .ok (.goto (-29), 3) := by decide +kernel
theorem dX7_goesRound_207 : decode cX7_goesRound 207 = .ok (.iload_n 3, 1) := by decide +kernel
theorem dX7_goesRound_208 : decode cX7_goesRound 208 = .ok (.ireturn, 1) := by decide +kernel
set_option maxRecDepth 20000 in
theorem ggX7_closes_X7_haveDanced : GoodIn wsX7_closes wsX7_haveDanced := goodIn_r _ [10, 3, 29, 30, 31, 32, 33, 34, 35, 36, 37, 38, 39, 40, 41, 42, 43, 44, 45, 46, 47, 48, 49, 50, 51, 52, 53, 54, 55, 56, 57, 58, 59, 60, 61] (by decide +kernel) (by decide +kernel)
set_option maxRecDepth 20000 in
theorem gX7_closes_X7_haveDanced : GoodIn wsX7_closes (wsV RX7 151 RX7 yX7_haveDanced wsX7_haveDanced) := goodIn_app (goodIn_of _ (by decide +kernel)) ggX7_closes_X7_haveDanced
set_option maxRecDepth 20000 in
theorem ggX7_closes_X7_goesRound : GoodIn wsX7_closes wsX7_goesRound := goodIn_r _ [14, 1, 15, 2, 4, 5, 16, 17, 18, 9, 19, 20, 21, 22, 23, 24, 25, 26, 27, 28, 29, 30, 31, 32, 33, 34, 35, 36, 37, 38, 39, 40, 41, 42, 43, 44, 45, 46, 47, 48, 49, 50, 51, 52, 53, 54, 55, 56, 57, 58, 59, 60, 61] (by decide +kernel) (by decide +kernel)
set_option maxRecDepth 20000 in
theorem gX7_closes_X7_goesRound : GoodIn wsX7_closes (wsV RX7 184 RX7 yX7_goesRound wsX7_goesRound) := goodIn_app (goodIn_of _ (by decide +kernel)) ggX7_closes_X7_goesRound
set_option maxRecDepth 20000 in
theorem ggX7_closes_X7_bits : GoodIn wsX7_closes wsX7_bits := goodIn_r _ [28] (by decide +kernel) (by decide +kernel)
set_option maxRecDepth 20000 in
theorem gX7_closes_X7_bits : GoodIn wsX7_closes (va_wsS RX7 78 yX7_bits wsX7_bits) := goodIn_app (goodIn_of _ (by decide +kernel)) ggX7_closes_X7_bits
theorem dX7_closes_0 : decode cX7_closes 0 = .ok (.iconst 0, 1) := by decide +kernel
theorem dX7_closes_1 : decode cX7_closes 1 = .ok (.istore_n 3, 1) := by decide +kernel
theorem dX7_closes_2 : decode cX7_closes 2 = .ok (.iload_n 3, 1) := by decide +kernel
theorem dX7_closes_3 : decode cX7_closes 3 = .ok (.aload_n 0, 1) := by decide +kernel
theorem dX7_closes_4 : decode cX7_closes 4 = .ok (.getfield 70, 3) := by decide +kernel
theorem dX7_closes_7 : decode cX7_closes 7 = .ok (.if_icmp .ge 21, 3) := by decide +kernel
theorem dX7_closes_10 : decode cX7_closes 10 = .ok (.aload_n 0, 1) := by decide +kernel
theorem dX7_closes_11 : decode cX7_closes 11 = .ok (.getfield 43, 3) := by decide +kernel
theorem dX7_closes_14 : decode cX7_closes 14 = .ok (.iload_n 3, 1) := by decide +kernel
theorem dX7_closes_15 : decode cX7_closes 15 = .ok (.aload_n 0, 1) := by decide +kernel
theorem dX7_closes_16 : decode cX7_closes 16 = .ok (.getfield 22, 3) := by decide +kernel
theorem dX7_closes_19 : decode cX7_closes 19 = .ok (.iload_n 3, 1) := by decide +kernel
theorem dX7_closes_20 : decode cX7_closes 20 = .ok (.iaload, 1) := by decide +kernel
theorem dX7_closes_21 : decode cX7_closes 21 = .ok (.iastore, 1) := by decide +kernel
theorem dX7_closes_22 : decode cX7_closes 22 = .ok (.iinc 3 1, 3) := by decide +kernel
theorem dX7_closes_25 : decode cX7_closes 25 = .ok (.goto (-23), 3) := by decide +kernel
theorem dX7_closes_28 : decode cX7_closes 28 = .ok (.iconst 0, 1) := by decide +kernel
theorem dX7_closes_29 : decode cX7_closes 29 = .ok (.istore_n 3, 1) := by decide +kernel
theorem dX7_closes_30 : decode cX7_closes 30 = .ok (.iload_n 3, 1) := by decide +kernel
theorem dX7_closes_31 : decode cX7_closes 31 = .ok (.bipush 64, 2) := by decide +kernel
theorem dX7_closes_33 : decode cX7_closes 33 = .ok (.if_icmp .ge 36, 3) := by decide +kernel
theorem dX7_closes_36 : decode cX7_closes 36 = .ok (.aload_n 0, 1) := by decide +kernel
theorem dX7_closes_37 : decode cX7_closes 37 = .ok (.getfield 49, 3) := by decide +kernel
theorem dX7_closes_40 : decode cX7_closes 40 = .ok (.iload_n 3, 1) := by decide +kernel
theorem dX7_closes_41 : decode cX7_closes 41 = .ok (.aload_n 0, 1) := by decide +kernel
theorem dX7_closes_42 : decode cX7_closes 42 = .ok (.iload_n 3, 1) := by decide +kernel
theorem dX7_closes_43 : decode cX7_closes 43 = .ok (.bipush 8, 2) := by decide +kernel
theorem dX7_closes_45 : decode cX7_closes 45 = .ok (.idiv, 1) := by decide +kernel
theorem dX7_closes_46 : decode cX7_closes 46 = .ok (.iload_n 3, 1) := by decide +kernel
theorem dX7_closes_47 : decode cX7_closes 47 = .ok (.bipush 8, 2) := by decide +kernel
theorem dX7_closes_49 : decode cX7_closes 49 = .ok (.irem, 1) := by decide +kernel
theorem dX7_closes_50 : decode cX7_closes 50 = .ok (.invokevirtual 151, 3) := by decide +kernel
theorem dX7_closes_53 : decode cX7_closes 53 = .ok (.ifCond .eq 7, 3) := by decide +kernel
theorem dX7_closes_56 : decode cX7_closes 56 = .ok (.iconst 0, 1) := by decide +kernel
theorem dX7_closes_57 : decode cX7_closes 57 = .ok (.goto 5, 3) := by decide +kernel
theorem dX7_closes_60 : decode cX7_closes 60 = .ok (.bipush (-9), 2) := by decide +kernel
theorem dX7_closes_62 : decode cX7_closes 62 = .ok (.iastore, 1) := by decide +kernel
theorem dX7_closes_63 : decode cX7_closes 63 = .ok (.iinc 3 1, 3) := by decide +kernel
theorem dX7_closes_66 : decode cX7_closes 66 = .ok (.goto (-36), 3) := by decide +kernel
theorem dX7_closes_69 : decode cX7_closes 69 = .ok (.aload_n 0, 1) := by decide +kernel
theorem dX7_closes_70 : decode cX7_closes 70 = .ok (.iconst 0, 1) := by decide +kernel
theorem dX7_closes_71 : decode cX7_closes 71 = .ok (.putfield 181, 3) := by decide +kernel
theorem dX7_closes_74 : decode cX7_closes 74 = .ok (.aload_n 0, 1) := by decide +kernel
theorem dX7_closes_75 : decode cX7_closes 75 = .ok (.iload_n 1, 1) := by decide +kernel
theorem dX7_closes_76 : decode cX7_closes 76 = .ok (.iload_n 2, 1) := by decide +kernel
theorem dX7_closes_77 : decode cX7_closes 77 = .ok (.invokevirtual 184, 3) := by decide +kernel
theorem dX7_closes_80 : decode cX7_closes 80 = .ok (.ifCond .eq 16, 3) := by decide +kernel
theorem dX7_closes_83 : decode cX7_closes 83 = .ok (.aload_n 0, 1) := by decide +kernel
theorem dX7_closes_84 : decode cX7_closes 84 = .ok (.dup, 1) := by decide +kernel
theorem dX7_closes_85 : decode cX7_closes 85 = .ok (.getfield 181, 3) := by decide +kernel
theorem dX7_closes_88 : decode cX7_closes 88 = .ok (.iconst 1, 1) := by decide +kernel
theorem dX7_closes_89 : decode cX7_closes 89 = .ok (.iadd, 1) := by decide +kernel
theorem dX7_closes_90 : decode cX7_closes 90 = .ok (.putfield 181, 3) := by decide +kernel
theorem dX7_closes_93 : decode cX7_closes 93 = .ok (.goto (-19), 3) := by decide +kernel
theorem dX7_closes_96 : decode cX7_closes 96 = .ok (.iconst 0, 1) := by decide +kernel
theorem dX7_closes_97 : decode cX7_closes 97 = .ok (.istore_n 3, 1) := by decide +kernel
theorem dX7_closes_98 : decode cX7_closes 98 = .ok (.iconst 0, 1) := by decide +kernel
theorem dX7_closes_99 : decode cX7_closes 99 = .ok (.istore 4, 2) := by decide +kernel
theorem dX7_closes_101 : decode cX7_closes 101 = .ok (.iload 4, 2) := by decide +kernel
theorem dX7_closes_103 : decode cX7_closes 103 = .ok (.aload_n 0, 1) := by decide +kernel
theorem dX7_closes_104 : decode cX7_closes 104 = .ok (.getfield 70, 3) := by decide +kernel
theorem dX7_closes_107 : decode cX7_closes 107 = .ok (.if_icmp .ge 22, 3) := by decide +kernel
theorem dX7_closes_110 : decode cX7_closes 110 = .ok (.iload_n 3, 1) := by decide +kernel
theorem dX7_closes_111 : decode cX7_closes 111 = .ok (.aload_n 0, 1) := by decide +kernel
theorem dX7_closes_112 : decode cX7_closes 112 = .ok (.getfield 43, 3) := by decide +kernel
theorem dX7_closes_115 : decode cX7_closes 115 = .ok (.iload 4, 2) := by decide +kernel
theorem dX7_closes_117 : decode cX7_closes 117 = .ok (.iaload, 1) := by decide +kernel
theorem dX7_closes_118 : decode cX7_closes 118 = .ok (.invokestatic 78, 3) := by decide +kernel
theorem dX7_closes_121 : decode cX7_closes 121 = .ok (.iadd, 1) := by decide +kernel
theorem dX7_closes_122 : decode cX7_closes 122 = .ok (.istore_n 3, 1) := by decide +kernel
theorem dX7_closes_123 : decode cX7_closes 123 = .ok (.iinc 4 1, 3) := by decide +kernel
theorem dX7_closes_126 : decode cX7_closes 126 = .ok (.goto (-25), 3) := by decide +kernel
theorem dX7_closes_129 : decode cX7_closes 129 = .ok (.iload_n 3, 1) := by decide +kernel
theorem dX7_closes_130 : decode cX7_closes 130 = .ok (.iconst 2, 1) := by decide +kernel
theorem dX7_closes_131 : decode cX7_closes 131 = .ok (.idiv, 1) := by decide +kernel
theorem dX7_closes_132 : decode cX7_closes 132 = .ok (.ireturn, 1) := by decide +kernel
set_option maxRecDepth 20000 in
theorem ggX7_ever_X7_areTwo : GoodIn wsX7_ever wsX7_areTwo := goodIn_r _ [7, 8, 9, 10, 6, 11, 12, 47, 48, 49, 50, 51, 52, 53, 54, 55, 56, 57, 58, 59, 60, 61, 62, 63, 64, 65, 66, 67, 68, 69, 70, 71, 72, 73, 74, 75, 76, 77, 78, 79] (by decide +kernel) (by decide +kernel)
set_option maxRecDepth 20000 in
theorem gX7_ever_X7_areTwo : GoodIn wsX7_ever (wsV RX7 112 RX7 yX7_areTwo wsX7_areTwo) := goodIn_app (goodIn_of _ (by decide +kernel)) ggX7_ever_X7_areTwo
set_option maxRecDepth 20000 in
theorem ggX7_ever_X7_no : GoodIn wsX7_ever wsX7_no := goodIn_r _ [16, 17, 47, 48, 49, 50, 51, 52, 53, 54, 55, 56, 57, 58, 59, 60, 61, 62, 63, 64, 65, 66, 67, 68, 69, 70, 71, 72, 73, 74, 75, 76, 77, 78, 79] (by decide +kernel) (by decide +kernel)
set_option maxRecDepth 20000 in
theorem gX7_ever_X7_no : GoodIn wsX7_ever (wsV RX7 89 RX7 yX7_no wsX7_no) := goodIn_app (goodIn_of _ (by decide +kernel)) ggX7_ever_X7_no
set_option maxRecDepth 20000 in
theorem ggX7_ever_X7_closes : GoodIn wsX7_ever wsX7_closes := goodIn_r _ [21, 12, 2, 22, 23, 24, 25, 26, 27, 6, 28, 29, 30, 31, 32, 33, 34, 35, 36, 37, 38, 39, 40, 41, 42, 43, 44, 45, 46, 47, 48, 49, 50, 51, 52, 53, 54, 55, 56, 57, 58, 59, 60, 61, 62, 63, 64, 65, 66, 67, 68, 69, 70, 71, 72, 73, 74, 75, 76, 77, 78, 79] (by decide +kernel) (by decide +kernel)
set_option maxRecDepth 20000 in
theorem gX7_ever_X7_closes : GoodIn wsX7_ever (wsV RX7 187 RX7 yX7_closes wsX7_closes) := goodIn_app (goodIn_of _ (by decide +kernel)) ggX7_ever_X7_closes
theorem dX7_ever_0 : decode cX7_ever 0 = .ok (.aload_n 0, 1) := by decide +kernel
theorem dX7_ever_1 : decode cX7_ever 1 = .ok (.iload_n 1, 1) := by decide +kernel
theorem dX7_ever_2 : decode cX7_ever 2 = .ok (.iload_n 2, 1) := by decide +kernel
theorem dX7_ever_3 : decode cX7_ever 3 = .ok (.invokevirtual 112, 3) := by decide +kernel
theorem dX7_ever_6 : decode cX7_ever 6 = .ok (.ifCond .ne 9, 3) := by decide +kernel
theorem dX7_ever_9 : decode cX7_ever 9 = .ok (.aload_n 0, 1) := by decide +kernel
theorem dX7_ever_10 : decode cX7_ever 10 = .ok (.iconst (-1), 1) := by decide +kernel
theorem dX7_ever_11 : decode cX7_ever 11 = .ok (.invokevirtual 89, 3) := by decide +kernel
theorem dX7_ever_14 : decode cX7_ever 14 = .ok (.ireturn, 1) := by decide +kernel
theorem dX7_ever_15 : decode cX7_ever 15 = .ok (.aload_n 0, 1) := by decide +kernel
theorem dX7_ever_16 : decode cX7_ever 16 = .ok (.aload_n 0, 1) := by decide +kernel
theorem dX7_ever_17 : decode cX7_ever 17 = .ok (.getfield 109, 3) := by decide +kernel
theorem dX7_ever_20 : decode cX7_ever 20 = .ok (.bipush (-9), 2) := by decide +kernel
theorem dX7_ever_22 : decode cX7_ever 22 = .ok (.invokevirtual 187, 3) := by decide +kernel
theorem dX7_ever_25 : decode cX7_ever 25 = .ok (.pop, 1) := by decide +kernel
theorem dX7_ever_26 : decode cX7_ever 26 = .ok (.aload_n 0, 1) := by decide +kernel
theorem dX7_ever_27 : decode cX7_ever 27 = .ok (.getfield 43, 3) := by decide +kernel
theorem dX7_ever_30 : decode cX7_ever 30 = .ok (.iload_n 1, 1) := by decide +kernel
theorem dX7_ever_31 : decode cX7_ever 31 = .ok (.iaload, 1) := by decide +kernel
theorem dX7_ever_32 : decode cX7_ever 32 = .ok (.iload_n 2, 1) := by decide +kernel
theorem dX7_ever_33 : decode cX7_ever 33 = .ok (.ishr, 1) := by decide +kernel
theorem dX7_ever_34 : decode cX7_ever 34 = .ok (.iconst 1, 1) := by decide +kernel
theorem dX7_ever_35 : decode cX7_ever 35 = .ok (.iand, 1) := by decide +kernel
theorem dX7_ever_36 : decode cX7_ever 36 = .ok (.ireturn, 1) := by decide +kernel
set_option maxRecDepth 20000 in
theorem ggX7_round_X7_areTwo : GoodIn wsX7_round wsX7_areTwo := goodIn_r _ [7, 8, 9, 10, 6, 11, 12, 47, 48, 49, 50, 51, 52, 53, 54, 55, 56, 57, 58, 59, 60, 61, 62, 63, 64, 65, 66, 67, 68, 69, 70, 71, 72, 73, 74, 75, 76, 77, 78, 79] (by decide +kernel) (by decide +kernel)
set_option maxRecDepth 20000 in
theorem gX7_round_X7_areTwo : GoodIn wsX7_round (wsV RX7 112 RX7 yX7_areTwo wsX7_areTwo) := goodIn_app (goodIn_of _ (by decide +kernel)) ggX7_round_X7_areTwo
set_option maxRecDepth 20000 in
theorem ggX7_round_X7_no : GoodIn wsX7_round wsX7_no := goodIn_r _ [16, 17, 47, 48, 49, 50, 51, 52, 53, 54, 55, 56, 57, 58, 59, 60, 61, 62, 63, 64, 65, 66, 67, 68, 69, 70, 71, 72, 73, 74, 75, 76, 77, 78, 79] (by decide +kernel) (by decide +kernel)
set_option maxRecDepth 20000 in
theorem gX7_round_X7_no : GoodIn wsX7_round (wsV RX7 89 RX7 yX7_no wsX7_no) := goodIn_app (goodIn_of _ (by decide +kernel)) ggX7_round_X7_no
set_option maxRecDepth 20000 in
theorem ggX7_round_X7_closes : GoodIn wsX7_round wsX7_closes := goodIn_r _ [21, 12, 22, 23, 2, 24, 25, 26, 27, 6, 28, 29, 30, 31, 32, 33, 34, 35, 36, 37, 38, 39, 40, 41, 42, 43, 44, 45, 46, 47, 48, 49, 50, 51, 52, 53, 54, 55, 56, 57, 58, 59, 60, 61, 62, 63, 64, 65, 66, 67, 68, 69, 70, 71, 72, 73, 74, 75, 76, 77, 78, 79] (by decide +kernel) (by decide +kernel)
set_option maxRecDepth 20000 in
theorem gX7_round_X7_closes : GoodIn wsX7_round (wsV RX7 187 RX7 yX7_closes wsX7_closes) := goodIn_app (goodIn_of _ (by decide +kernel)) ggX7_round_X7_closes
theorem dX7_round_0 : decode cX7_round 0 = .ok (.aload_n 0, 1) := by decide +kernel
theorem dX7_round_1 : decode cX7_round 1 = .ok (.iload_n 1, 1) := by decide +kernel
theorem dX7_round_2 : decode cX7_round 2 = .ok (.iload_n 2, 1) := by decide +kernel
theorem dX7_round_3 : decode cX7_round 3 = .ok (.invokevirtual 112, 3) := by decide +kernel
theorem dX7_round_6 : decode cX7_round 6 = .ok (.ifCond .ne 9, 3) := by decide +kernel
theorem dX7_round_9 : decode cX7_round 9 = .ok (.aload_n 0, 1) := by decide +kernel
theorem dX7_round_10 : decode cX7_round 10 = .ok (.iconst (-1), 1) := by decide +kernel
theorem dX7_round_11 : decode cX7_round 11 = .ok (.invokevirtual 89, 3) := by decide +kernel
theorem dX7_round_14 : decode cX7_round 14 = .ok (.ireturn, 1) := by decide +kernel
theorem dX7_round_15 : decode cX7_round 15 = .ok (.aload_n 0, 1) := by decide +kernel
theorem dX7_round_16 : decode cX7_round 16 = .ok (.aload_n 0, 1) := by decide +kernel
theorem dX7_round_17 : decode cX7_round 17 = .ok (.getfield 109, 3) := by decide +kernel
theorem dX7_round_20 : decode cX7_round 20 = .ok (.bipush (-9), 2) := by decide +kernel
theorem dX7_round_22 : decode cX7_round 22 = .ok (.invokevirtual 187, 3) := by decide +kernel
theorem dX7_round_25 : decode cX7_round 25 = .ok (.pop, 1) := by decide +kernel
theorem dX7_round_26 : decode cX7_round 26 = .ok (.iload_n 1, 1) := by decide +kernel
theorem dX7_round_27 : decode cX7_round 27 = .ok (.iload_n 2, 1) := by decide +kernel
theorem dX7_round_28 : decode cX7_round 28 = .ok (.if_icmp .ge 17, 3) := by decide +kernel
theorem dX7_round_31 : decode cX7_round 31 = .ok (.aload_n 0, 1) := by decide +kernel
theorem dX7_round_32 : decode cX7_round 32 = .ok (.getfield 49, 3) := by decide +kernel
theorem dX7_round_35 : decode cX7_round 35 = .ok (.bipush 8, 2) := by decide +kernel
theorem dX7_round_37 : decode cX7_round 37 = .ok (.iload_n 1, 1) := by decide +kernel
theorem dX7_round_38 : decode cX7_round 38 = .ok (.imul, 1) := by decide +kernel
theorem dX7_round_39 : decode cX7_round 39 = .ok (.iload_n 2, 1) := by decide +kernel
theorem dX7_round_40 : decode cX7_round 40 = .ok (.iadd, 1) := by decide +kernel
theorem dX7_round_41 : decode cX7_round 41 = .ok (.iaload, 1) := by decide +kernel
theorem dX7_round_42 : decode cX7_round 42 = .ok (.goto 14, 3) := by decide +kernel
theorem dX7_round_45 : decode cX7_round 45 = .ok (.aload_n 0, 1) := by decide +kernel
theorem dX7_round_46 : decode cX7_round 46 = .ok (.getfield 49, 3) := by decide +kernel
theorem dX7_round_49 : decode cX7_round 49 = .ok (.bipush 8, 2) := by decide +kernel
theorem dX7_round_51 : decode cX7_round 51 = .ok (.iload_n 2, 1) := by decide +kernel
theorem dX7_round_52 : decode cX7_round 52 = .ok (.imul, 1) := by decide +kernel
theorem dX7_round_53 : decode cX7_round 53 = .ok (.iload_n 1, 1) := by decide +kernel
theorem dX7_round_54 : decode cX7_round 54 = .ok (.iadd, 1) := by decide +kernel
theorem dX7_round_55 : decode cX7_round 55 = .ok (.iaload, 1) := by decide +kernel
theorem dX7_round_56 : decode cX7_round 56 = .ok (.ireturn, 1) := by decide +kernel
theorem dX7_heaps_0 : decode cX7_heaps 0 = .ok (.iconst 0, 1) := by decide +kernel
theorem dX7_heaps_1 : decode cX7_heaps 1 = .ok (.istore_n 1, 1) := by decide +kernel
theorem dX7_heaps_2 : decode cX7_heaps 2 = .ok (.iconst 0, 1) := by decide +kernel
theorem dX7_heaps_3 : decode cX7_heaps 3 = .ok (.istore_n 2, 1) := by decide +kernel
theorem dX7_heaps_4 : decode cX7_heaps 4 = .ok (.iconst 0, 1) := by decide +kernel
theorem dX7_heaps_5 : decode cX7_heaps 5 = .ok (.istore_n 3, 1) := by decide +kernel
theorem dX7_heaps_6 : decode cX7_heaps 6 = .ok (.iload_n 3, 1) := by decide +kernel
theorem dX7_heaps_7 : decode cX7_heaps 7 = .ok (.aload_n 0, 1) := by decide +kernel
theorem dX7_heaps_8 : decode cX7_heaps 8 = .ok (.getfield 70, 3) := by decide +kernel
theorem dX7_heaps_11 : decode cX7_heaps 11 = .ok (.if_icmp .ge 90, 3) := by decide +kernel
theorem dX7_heaps_14 : decode cX7_heaps 14 = .ok (.iload_n 2, 1) := by decide +kernel
theorem dX7_heaps_15 : decode cX7_heaps 15 = .ok (.iload_n 3, 1) := by decide +kernel
theorem dX7_heaps_16 : decode cX7_heaps 16 = .ok (.ishr, 1) := by decide +kernel
theorem dX7_heaps_17 : decode cX7_heaps 17 = .ok (.iconst 1, 1) := by decide +kernel
theorem dX7_heaps_18 : decode cX7_heaps 18 = .ok (.iand, 1) := by decide +kernel
theorem dX7_heaps_19 : decode cX7_heaps 19 = .ok (.iconst 1, 1) := by decide +kernel
theorem dX7_heaps_20 : decode cX7_heaps 20 = .ok (.if_icmp .ne 6, 3) := by decide +kernel
theorem dX7_heaps_23 : decode cX7_heaps 23 = .ok (.goto 72, 3) := by decide +kernel
theorem dX7_heaps_26 : decode cX7_heaps 26 = .ok (.iinc 1 1, 3) := by decide +kernel
theorem dX7_heaps_29 : decode cX7_heaps 29 = .ok (.iload_n 2, 1) := by decide +kernel
theorem dX7_heaps_30 : decode cX7_heaps 30 = .ok (.iconst 1, 1) := by decide +kernel
theorem dX7_heaps_31 : decode cX7_heaps 31 = .ok (.iload_n 3, 1) := by decide +kernel
theorem dX7_heaps_32 : decode cX7_heaps 32 = .ok (.ishl, 1) := by decide +kernel
theorem dX7_heaps_33 : decode cX7_heaps 33 = .ok (.ior, 1) := by decide +kernel
theorem dX7_heaps_34 : decode cX7_heaps 34 = .ok (.istore_n 2, 1) := by decide +kernel
theorem dX7_heaps_35 : decode cX7_heaps 35 = .ok (.iconst 0, 1) := by decide +kernel
theorem dX7_heaps_36 : decode cX7_heaps 36 = .ok (.istore 4, 2) := by decide +kernel
theorem dX7_heaps_38 : decode cX7_heaps 38 = .ok (.iload 4, 2) := by decide +kernel
theorem dX7_heaps_40 : decode cX7_heaps 40 = .ok (.aload_n 0, 1) := by decide +kernel
theorem dX7_heaps_41 : decode cX7_heaps 41 = .ok (.getfield 70, 3) := by decide +kernel
theorem dX7_heaps_44 : decode cX7_heaps 44 = .ok (.if_icmp .ge 51, 3) := by decide +kernel
theorem dX7_heaps_47 : decode cX7_heaps 47 = .ok (.iconst 0, 1) := by decide +kernel
theorem dX7_heaps_48 : decode cX7_heaps 48 = .ok (.istore 5, 2) := by decide +kernel
theorem dX7_heaps_50 : decode cX7_heaps 50 = .ok (.iload 5, 2) := by decide +kernel
theorem dX7_heaps_52 : decode cX7_heaps 52 = .ok (.aload_n 0, 1) := by decide +kernel
theorem dX7_heaps_53 : decode cX7_heaps 53 = .ok (.getfield 70, 3) := by decide +kernel
theorem dX7_heaps_56 : decode cX7_heaps 56 = .ok (.if_icmp .ge 33, 3) := by decide +kernel
theorem dX7_heaps_59 : decode cX7_heaps 59 = .ok (.iload_n 2, 1) := by decide +kernel
theorem dX7_heaps_60 : decode cX7_heaps 60 = .ok (.iload_n 2, 1) := by decide +kernel
theorem dX7_heaps_61 : decode cX7_heaps 61 = .ok (.iload 5, 2) := by decide +kernel
theorem dX7_heaps_63 : decode cX7_heaps 63 = .ok (.ishr, 1) := by decide +kernel
theorem dX7_heaps_64 : decode cX7_heaps 64 = .ok (.iconst 1, 1) := by decide +kernel
theorem dX7_heaps_65 : decode cX7_heaps 65 = .ok (.iand, 1) := by decide +kernel
theorem dX7_heaps_66 : decode cX7_heaps 66 = .ok (.iconst 1, 1) := by decide +kernel
theorem dX7_heaps_67 : decode cX7_heaps 67 = .ok (.if_icmp .ne 13, 3) := by decide +kernel
theorem dX7_heaps_70 : decode cX7_heaps 70 = .ok (.aload_n 0, 1) := by decide +kernel
theorem dX7_heaps_71 : decode cX7_heaps 71 = .ok (.getfield 22, 3) := by decide +kernel
theorem dX7_heaps_74 : decode cX7_heaps 74 = .ok (.iload 5, 2) := by decide +kernel
theorem dX7_heaps_76 : decode cX7_heaps 76 = .ok (.iaload, 1) := by decide +kernel
theorem dX7_heaps_77 : decode cX7_heaps 77 = .ok (.goto 4, 3) := by decide +kernel
theorem dX7_heaps_80 : decode cX7_heaps 80 = .ok (.iconst 0, 1) := by decide +kernel
theorem dX7_heaps_81 : decode cX7_heaps 81 = .ok (.ior, 1) := by decide +kernel
theorem dX7_heaps_82 : decode cX7_heaps 82 = .ok (.istore_n 2, 1) := by decide +kernel
theorem dX7_heaps_83 : decode cX7_heaps 83 = .ok (.iinc 5 1, 3) := by decide +kernel
theorem dX7_heaps_86 : decode cX7_heaps 86 = .ok (.goto (-36), 3) := by decide +kernel
theorem dX7_heaps_89 : decode cX7_heaps 89 = .ok (.iinc 4 1, 3) := by decide +kernel
theorem dX7_heaps_92 : decode cX7_heaps 92 = .ok (.goto (-54), 3) := by decide +kernel
theorem dX7_heaps_95 : decode cX7_heaps 95 = .ok (.iinc 3 1, 3) := by decide +kernel
theorem dX7_heaps_98 : decode cX7_heaps 98 = .ok (.goto (-92), 3) := by decide +kernel
theorem dX7_heaps_101 : decode cX7_heaps 101 = .ok (.iload_n 1, 1) := by decide +kernel
theorem dX7_heaps_102 : decode cX7_heaps 102 = .ok (.ireturn, 1) := by decide +kernel
set_option maxRecDepth 20000 in
theorem ggX7_closed_X7_isIn : GoodIn wsX7_closed wsX7_isIn := goodIn_r _ [6] (by decide +kernel) (by decide +kernel)
set_option maxRecDepth 20000 in
theorem gX7_closed_X7_isIn : GoodIn wsX7_closed (va_wsS RX7 99 yX7_isIn wsX7_isIn) := goodIn_app (goodIn_of _ (by decide +kernel)) ggX7_closed_X7_isIn
set_option maxRecDepth 20000 in
theorem ggX7_closed_X7_no : GoodIn wsX7_closed wsX7_no := goodIn_r _ [10, 11, 46, 47, 48, 49, 50, 51, 52, 53, 54, 55, 56, 57, 58, 59, 60, 61, 62, 63, 64, 65, 66, 67, 68, 69, 70, 71, 72, 73, 74, 75, 76, 77, 78] (by decide +kernel) (by decide +kernel)
set_option maxRecDepth 20000 in
theorem gX7_closed_X7_no : GoodIn wsX7_closed (wsV RX7 89 RX7 yX7_no wsX7_no) := goodIn_app (goodIn_of _ (by decide +kernel)) ggX7_closed_X7_no
set_option maxRecDepth 20000 in
theorem ggX7_closed_X7_closes : GoodIn wsX7_closed wsX7_closes := goodIn_r _ [15, 16, 17, 18, 19, 2, 20, 21, 22, 5, 23, 24, 25, 26, 27, 28, 29, 30, 31, 32, 33, 34, 35, 36, 37, 38, 39, 40, 41, 46, 47, 48, 49, 50, 51, 52, 53, 54, 55, 56, 57, 58, 59, 60, 61, 62, 63, 64, 65, 66, 67, 68, 69, 70, 71, 72, 73, 74, 75, 76, 77, 78] (by decide +kernel) (by decide +kernel)
set_option maxRecDepth 20000 in
theorem gX7_closed_X7_closes : GoodIn wsX7_closed (wsV RX7 187 RX7 yX7_closes wsX7_closes) := goodIn_app (goodIn_of _ (by decide +kernel)) ggX7_closed_X7_closes
set_option maxRecDepth 20000 in
theorem ggX7_closed_X7_heaps : GoodIn wsX7_closed wsX7_heaps := goodIn_r _ [45, 16, 18, 46, 47, 48, 49, 50, 51, 52, 53, 54, 55, 56, 57, 58, 59, 60, 61, 62, 63, 64, 65, 66, 67, 68, 69, 70, 71, 72, 73, 74, 75, 76, 77, 78] (by decide +kernel) (by decide +kernel)
set_option maxRecDepth 20000 in
theorem gX7_closed_X7_heaps : GoodIn wsX7_closed (wsV RX7 190 RX7 yX7_heaps wsX7_heaps) := goodIn_app (goodIn_of _ (by decide +kernel)) ggX7_closed_X7_heaps
theorem dX7_closed_0 : decode cX7_closed 0 = .ok (.iload_n 1, 1) := by decide +kernel
theorem dX7_closed_1 : decode cX7_closed 1 = .ok (.iconst 0, 1) := by decide +kernel
theorem dX7_closed_2 : decode cX7_closed 2 = .ok (.iconst 2, 1) := by decide +kernel
theorem dX7_closed_3 : decode cX7_closed 3 = .ok (.invokestatic 99, 3) := by decide +kernel
theorem dX7_closed_6 : decode cX7_closed 6 = .ok (.ifCond .ne 10, 3) := by decide +kernel
theorem dX7_closed_9 : decode cX7_closed 9 = .ok (.aload_n 0, 1) := by decide +kernel
theorem dX7_closed_10 : decode cX7_closed 10 = .ok (.bipush (-2), 2) := by decide +kernel
theorem dX7_closed_12 : decode cX7_closed 12 = .ok (.invokevirtual 89, 3) := by decide +kernel
theorem dX7_closed_15 : decode cX7_closed 15 = .ok (.ireturn, 1) := by decide +kernel
theorem dX7_closed_16 : decode cX7_closed 16 = .ok (.aload_n 0, 1) := by decide +kernel
theorem dX7_closed_17 : decode cX7_closed 17 = .ok (.aload_n 0, 1) := by decide +kernel
theorem dX7_closed_18 : decode cX7_closed 18 = .ok (.getfield 109, 3) := by decide +kernel
theorem dX7_closed_21 : decode cX7_closed 21 = .ok (.bipush (-9), 2) := by decide +kernel
theorem dX7_closed_23 : decode cX7_closed 23 = .ok (.invokevirtual 187, 3) := by decide +kernel
theorem dX7_closed_26 : decode cX7_closed 26 = .ok (.istore_n 2, 1) := by decide +kernel
theorem dX7_closed_27 : decode cX7_closed 27 = .ok (.iload_n 1, 1) := by decide +kernel
theorem dX7_closed_28 : decode cX7_closed 28 = .ok (.ifCond .ne 7, 3) := by decide +kernel
theorem dX7_closed_31 : decode cX7_closed 31 = .ok (.iload_n 2, 1) := by decide +kernel
theorem dX7_closed_32 : decode cX7_closed 32 = .ok (.goto 19, 3) := by decide +kernel
theorem dX7_closed_35 : decode cX7_closed 35 = .ok (.iload_n 1, 1) := by decide +kernel
theorem dX7_closed_36 : decode cX7_closed 36 = .ok (.iconst 1, 1) := by decide +kernel
theorem dX7_closed_37 : decode cX7_closed 37 = .ok (.if_icmp .ne 10, 3) := by decide +kernel
theorem dX7_closed_40 : decode cX7_closed 40 = .ok (.aload_n 0, 1) := by decide +kernel
theorem dX7_closed_41 : decode cX7_closed 41 = .ok (.getfield 181, 3) := by decide +kernel
theorem dX7_closed_44 : decode cX7_closed 44 = .ok (.goto 7, 3) := by decide +kernel
theorem dX7_closed_47 : decode cX7_closed 47 = .ok (.aload_n 0, 1) := by decide +kernel
theorem dX7_closed_48 : decode cX7_closed 48 = .ok (.invokevirtual 190, 3) := by decide +kernel
theorem dX7_closed_51 : decode cX7_closed 51 = .ok (.ireturn, 1) := by decide +kernel
set_option maxRecDepth 20000 in
theorem ggX7_closesWith_X7_joins : GoodIn wsX7_closesWith wsX7_joins := goodIn_r _ [6, 7, 42, 43, 44, 45, 46, 47, 48, 49, 50, 51, 52, 53, 54, 55, 56, 57, 58, 59, 60, 61, 62, 63, 64, 65, 66, 67, 68, 69, 70, 71, 72, 73, 74] (by decide +kernel) (by decide +kernel)
set_option maxRecDepth 20000 in
theorem gX7_closesWith_X7_joins : GoodIn wsX7_closesWith (wsV RX7 116 RX7 yX7_joins wsX7_joins) := goodIn_app (goodIn_of _ (by decide +kernel)) ggX7_closesWith_X7_joins
set_option maxRecDepth 20000 in
theorem ggX7_closesWith_X7_closes : GoodIn wsX7_closesWith wsX7_closes := goodIn_r _ [11, 12, 13, 7, 14, 15, 16, 17, 18, 5, 19, 20, 21, 22, 23, 24, 25, 26, 27, 28, 29, 30, 31, 32, 33, 34, 35, 36, 37, 42, 43, 44, 45, 46, 47, 48, 49, 50, 51, 52, 53, 54, 55, 56, 57, 58, 59, 60, 61, 62, 63, 64, 65, 66, 67, 68, 69, 70, 71, 72, 73, 74] (by decide +kernel) (by decide +kernel)
set_option maxRecDepth 20000 in
theorem gX7_closesWith_X7_closes : GoodIn wsX7_closesWith (wsV RX7 187 RX7 yX7_closes wsX7_closes) := goodIn_app (goodIn_of _ (by decide +kernel)) ggX7_closesWith_X7_closes
set_option maxRecDepth 20000 in
theorem ggX7_closesWith_X7_parts : GoodIn wsX7_closesWith wsX7_parts := goodIn_r _ [41, 7, 42, 43, 44, 45, 46, 47, 48, 49, 50, 51, 52, 53, 54, 55, 56, 57, 58, 59, 60, 61, 62, 63, 64, 65, 66, 67, 68, 69, 70, 71, 72, 73, 74] (by decide +kernel) (by decide +kernel)
set_option maxRecDepth 20000 in
theorem gX7_closesWith_X7_parts : GoodIn wsX7_closesWith (wsV RX7 193 RX7 yX7_parts wsX7_parts) := goodIn_app (goodIn_of _ (by decide +kernel)) ggX7_closesWith_X7_parts
theorem dX7_closesWith_0 : decode cX7_closesWith 0 = .ok (.aload_n 0, 1) := by decide +kernel
theorem dX7_closesWith_1 : decode cX7_closesWith 1 = .ok (.iload_n 1, 1) := by decide +kernel
theorem dX7_closesWith_2 : decode cX7_closesWith 2 = .ok (.iload_n 2, 1) := by decide +kernel
theorem dX7_closesWith_3 : decode cX7_closesWith 3 = .ok (.invokevirtual 116, 3) := by decide +kernel
theorem dX7_closesWith_6 : decode cX7_closesWith 6 = .ok (.aload_n 0, 1) := by decide +kernel
theorem dX7_closesWith_7 : decode cX7_closesWith 7 = .ok (.aload_n 0, 1) := by decide +kernel
theorem dX7_closesWith_8 : decode cX7_closesWith 8 = .ok (.getfield 109, 3) := by decide +kernel
theorem dX7_closesWith_11 : decode cX7_closesWith 11 = .ok (.bipush (-9), 2) := by decide +kernel
theorem dX7_closesWith_13 : decode cX7_closesWith 13 = .ok (.invokevirtual 187, 3) := by decide +kernel
theorem dX7_closesWith_16 : decode cX7_closesWith 16 = .ok (.istore_n 3, 1) := by decide +kernel
theorem dX7_closesWith_17 : decode cX7_closesWith 17 = .ok (.aload_n 0, 1) := by decide +kernel
theorem dX7_closesWith_18 : decode cX7_closesWith 18 = .ok (.iload_n 1, 1) := by decide +kernel
theorem dX7_closesWith_19 : decode cX7_closesWith 19 = .ok (.iload_n 2, 1) := by decide +kernel
theorem dX7_closesWith_20 : decode cX7_closesWith 20 = .ok (.invokevirtual 193, 3) := by decide +kernel
theorem dX7_closesWith_23 : decode cX7_closesWith 23 = .ok (.iload_n 3, 1) := by decide +kernel
theorem dX7_closesWith_24 : decode cX7_closesWith 24 = .ok (.ireturn, 1) := by decide +kernel
set_option maxRecDepth 20000 in
theorem ggX7_opens_X7_areTwo : GoodIn wsX7_opens wsX7_areTwo := goodIn_r _ [6, 7, 8, 9, 5, 10, 11, 59, 60, 61, 62, 63, 64, 65, 66, 67, 68, 69, 70, 71, 72, 73, 74, 75, 76, 77, 78, 79, 80, 81, 82, 83, 84, 85, 86, 87, 88, 89, 90, 91] (by decide +kernel) (by decide +kernel)
set_option maxRecDepth 20000 in
theorem gX7_opens_X7_areTwo : GoodIn wsX7_opens (wsV RX7 112 RX7 yX7_areTwo wsX7_areTwo) := goodIn_app (goodIn_of _ (by decide +kernel)) ggX7_opens_X7_areTwo
set_option maxRecDepth 20000 in
theorem ggX7_opens_X7_no : GoodIn wsX7_opens wsX7_no := goodIn_r _ [15, 16, 59, 60, 61, 62, 63, 64, 65, 66, 67, 68, 69, 70, 71, 72, 73, 74, 75, 76, 77, 78, 79, 80, 81, 82, 83, 84, 85, 86, 87, 88, 89, 90, 91] (by decide +kernel) (by decide +kernel)
set_option maxRecDepth 20000 in
theorem gX7_opens_X7_no : GoodIn wsX7_opens (wsV RX7 89 RX7 yX7_no wsX7_no) := goodIn_app (goodIn_of _ (by decide +kernel)) ggX7_opens_X7_no
set_option maxRecDepth 20000 in
theorem ggX7_opens_X7_haveDanced : GoodIn wsX7_opens wsX7_haveDanced := goodIn_r _ [20, 21, 59, 60, 61, 62, 63, 64, 65, 66, 67, 68, 69, 70, 71, 72, 73, 74, 75, 76, 77, 78, 79, 80, 81, 82, 83, 84, 85, 86, 87, 88, 89, 90, 91] (by decide +kernel) (by decide +kernel)
set_option maxRecDepth 20000 in
theorem gX7_opens_X7_haveDanced : GoodIn wsX7_opens (wsV RX7 151 RX7 yX7_haveDanced wsX7_haveDanced) := goodIn_app (goodIn_of _ (by decide +kernel)) ggX7_opens_X7_haveDanced
set_option maxRecDepth 20000 in
theorem ggX7_opens_X7_closes : GoodIn wsX7_opens wsX7_closes := goodIn_r _ [25, 11, 26, 21, 27, 28, 17, 18, 19, 5, 20, 29, 30, 31, 32, 33, 34, 35, 36, 37, 38, 39, 40, 41, 42, 43, 44, 45, 46, 59, 60, 61, 62, 63, 64, 65, 66, 67, 68, 69, 70, 71, 72, 73, 74, 75, 76, 77, 78, 79, 80, 81, 82, 83, 84, 85, 86, 87, 88, 89, 90, 91] (by decide +kernel) (by decide +kernel)
set_option maxRecDepth 20000 in
theorem gX7_opens_X7_closes : GoodIn wsX7_opens (wsV RX7 187 RX7 yX7_closes wsX7_closes) := goodIn_app (goodIn_of _ (by decide +kernel)) ggX7_opens_X7_closes
set_option maxRecDepth 20000 in
theorem ggX7_opens_X7_closesWith : GoodIn wsX7_opens wsX7_closesWith := goodIn_r _ [50, 1, 51, 52, 53, 5, 54, 21, 22, 23, 24, 25, 11, 26, 27, 28, 17, 18, 19, 20, 29, 30, 31, 32, 33, 34, 35, 36, 37, 38, 39, 40, 41, 42, 43, 44, 45, 46, 55, 56, 57, 58, 59, 60, 61, 62, 63, 64, 65, 66, 67, 68, 69, 70, 71, 72, 73, 74, 75, 76, 77, 78, 79, 80, 81, 82, 83, 84, 85, 86, 87, 88, 89, 90, 91] (by decide +kernel) (by decide +kernel)
set_option maxRecDepth 20000 in
theorem gX7_opens_X7_closesWith : GoodIn wsX7_opens (wsV RX7 196 RX7 yX7_closesWith wsX7_closesWith) := goodIn_app (goodIn_of _ (by decide +kernel)) ggX7_opens_X7_closesWith
theorem dX7_opens_0 : decode cX7_opens 0 = .ok (.aload_n 0, 1) := by decide +kernel
theorem dX7_opens_1 : decode cX7_opens 1 = .ok (.iload_n 1, 1) := by decide +kernel
theorem dX7_opens_2 : decode cX7_opens 2 = .ok (.iload_n 2, 1) := by decide +kernel
theorem dX7_opens_3 : decode cX7_opens 3 = .ok (.invokevirtual 112, 3) := by decide +kernel
theorem dX7_opens_6 : decode cX7_opens 6 = .ok (.ifCond .ne 9, 3) := by decide +kernel
theorem dX7_opens_9 : decode cX7_opens 9 = .ok (.aload_n 0, 1) := by decide +kernel
theorem dX7_opens_10 : decode cX7_opens 10 = .ok (.iconst (-1), 1) := by decide +kernel
theorem dX7_opens_11 : decode cX7_opens 11 = .ok (.invokevirtual 89, 3) := by decide +kernel
theorem dX7_opens_14 : decode cX7_opens 14 = .ok (.ireturn, 1) := by decide +kernel
theorem dX7_opens_15 : decode cX7_opens 15 = .ok (.aload_n 0, 1) := by decide +kernel
theorem dX7_opens_16 : decode cX7_opens 16 = .ok (.iload_n 1, 1) := by decide +kernel
theorem dX7_opens_17 : decode cX7_opens 17 = .ok (.iload_n 2, 1) := by decide +kernel
theorem dX7_opens_18 : decode cX7_opens 18 = .ok (.invokevirtual 151, 3) := by decide +kernel
theorem dX7_opens_21 : decode cX7_opens 21 = .ok (.ifCond .eq 10, 3) := by decide +kernel
theorem dX7_opens_24 : decode cX7_opens 24 = .ok (.aload_n 0, 1) := by decide +kernel
theorem dX7_opens_25 : decode cX7_opens 25 = .ok (.bipush (-3), 2) := by decide +kernel
theorem dX7_opens_27 : decode cX7_opens 27 = .ok (.invokevirtual 89, 3) := by decide +kernel
theorem dX7_opens_30 : decode cX7_opens 30 = .ok (.ireturn, 1) := by decide +kernel
theorem dX7_opens_31 : decode cX7_opens 31 = .ok (.aload_n 0, 1) := by decide +kernel
theorem dX7_opens_32 : decode cX7_opens 32 = .ok (.aload_n 0, 1) := by decide +kernel
theorem dX7_opens_33 : decode cX7_opens 33 = .ok (.getfield 109, 3) := by decide +kernel
theorem dX7_opens_36 : decode cX7_opens 36 = .ok (.bipush (-9), 2) := by decide +kernel
theorem dX7_opens_38 : decode cX7_opens 38 = .ok (.invokevirtual 187, 3) := by decide +kernel
theorem dX7_opens_41 : decode cX7_opens 41 = .ok (.istore_n 3, 1) := by decide +kernel
theorem dX7_opens_42 : decode cX7_opens 42 = .ok (.aload_n 0, 1) := by decide +kernel
theorem dX7_opens_43 : decode cX7_opens 43 = .ok (.iload_n 1, 1) := by decide +kernel
theorem dX7_opens_44 : decode cX7_opens 44 = .ok (.iload_n 2, 1) := by decide +kernel
theorem dX7_opens_45 : decode cX7_opens 45 = .ok (.invokevirtual 196, 3) := by decide +kernel
theorem dX7_opens_48 : decode cX7_opens 48 = .ok (.iload_n 3, 1) := by decide +kernel
theorem dX7_opens_49 : decode cX7_opens 49 = .ok (.isub, 1) := by decide +kernel
theorem dX7_opens_50 : decode cX7_opens 50 = .ok (.ireturn, 1) := by decide +kernel
set_option maxRecDepth 20000 in
theorem ggX7_best_X7_haveDanced : GoodIn wsX7_best wsX7_haveDanced := goodIn_r _ [6, 7, 46, 47, 48, 49, 50, 51, 52, 53, 54, 55, 56, 57, 58, 59, 60, 61, 62, 63, 64, 65, 66, 67, 68, 69, 70, 71, 72, 73, 74, 75, 76, 77, 78] (by decide +kernel) (by decide +kernel)
set_option maxRecDepth 20000 in
theorem gX7_best_X7_haveDanced : GoodIn wsX7_best (wsV RX7 151 RX7 yX7_haveDanced wsX7_haveDanced) := goodIn_app (goodIn_of _ (by decide +kernel)) ggX7_best_X7_haveDanced
set_option maxRecDepth 20000 in
theorem ggX7_best_X7_closesWith : GoodIn wsX7_best wsX7_closesWith := goodIn_r _ [11, 12, 13, 14, 15, 5, 16, 7, 17, 18, 19, 20, 1, 21, 22, 23, 2, 3, 4, 6, 24, 25, 26, 27, 28, 29, 30, 31, 32, 33, 34, 35, 36, 37, 38, 39, 40, 41, 42, 43, 44, 45, 46, 47, 48, 49, 50, 51, 52, 53, 54, 55, 56, 57, 58, 59, 60, 61, 62, 63, 64, 65, 66, 67, 68, 69, 70, 71, 72, 73, 74, 75, 76, 77, 78] (by decide +kernel) (by decide +kernel)
set_option maxRecDepth 20000 in
theorem gX7_best_X7_closesWith : GoodIn wsX7_best (wsV RX7 196 RX7 yX7_closesWith wsX7_closesWith) := goodIn_app (goodIn_of _ (by decide +kernel)) ggX7_best_X7_closesWith
theorem dX7_best_0 : decode cX7_best 0 = .ok (.bipush (-9), 2) := by decide +kernel
theorem dX7_best_2 : decode cX7_best 2 = .ok (.istore_n 1, 1) := by decide +kernel
theorem dX7_best_3 : decode cX7_best 3 = .ok (.iconst 0, 1) := by decide +kernel
theorem dX7_best_4 : decode cX7_best 4 = .ok (.istore_n 2, 1) := by decide +kernel
theorem dX7_best_5 : decode cX7_best 5 = .ok (.iconst 0, 1) := by decide +kernel
theorem dX7_best_6 : decode cX7_best 6 = .ok (.istore_n 3, 1) := by decide +kernel
theorem dX7_best_7 : decode cX7_best 7 = .ok (.iload_n 3, 1) := by decide +kernel
theorem dX7_best_8 : decode cX7_best 8 = .ok (.aload_n 0, 1) := by decide +kernel
theorem dX7_best_9 : decode cX7_best 9 = .ok (.getfield 70, 3) := by decide +kernel
theorem dX7_best_12 : decode cX7_best 12 = .ok (.if_icmp .ge 75, 3) := by decide +kernel
theorem dX7_best_15 : decode cX7_best 15 = .ok (.iload_n 3, 1) := by decide +kernel
theorem dX7_best_16 : decode cX7_best 16 = .ok (.iconst 1, 1) := by decide +kernel
theorem dX7_best_17 : decode cX7_best 17 = .ok (.iadd, 1) := by decide +kernel
theorem dX7_best_18 : decode cX7_best 18 = .ok (.istore 4, 2) := by decide +kernel
theorem dX7_best_20 : decode cX7_best 20 = .ok (.iload 4, 2) := by decide +kernel
theorem dX7_best_22 : decode cX7_best 22 = .ok (.aload_n 0, 1) := by decide +kernel
theorem dX7_best_23 : decode cX7_best 23 = .ok (.getfield 70, 3) := by decide +kernel
theorem dX7_best_26 : decode cX7_best 26 = .ok (.if_icmp .ge 55, 3) := by decide +kernel
theorem dX7_best_29 : decode cX7_best 29 = .ok (.aload_n 0, 1) := by decide +kernel
theorem dX7_best_30 : decode cX7_best 30 = .ok (.iload_n 3, 1) := by decide +kernel
theorem dX7_best_31 : decode cX7_best 31 = .ok (.iload 4, 2) := by decide +kernel
theorem dX7_best_33 : decode cX7_best 33 = .ok (.invokevirtual 151, 3) := by decide +kernel
theorem dX7_best_36 : decode cX7_best 36 = .ok (.ifCond .eq 6, 3) := by decide +kernel
theorem dX7_best_39 : decode cX7_best 39 = .ok (.goto 36, 3) := by decide +kernel
theorem dX7_best_42 : decode cX7_best 42 = .ok (.aload_n 0, 1) := by decide +kernel
theorem dX7_best_43 : decode cX7_best 43 = .ok (.iload_n 3, 1) := by decide +kernel
theorem dX7_best_44 : decode cX7_best 44 = .ok (.iload 4, 2) := by decide +kernel
theorem dX7_best_46 : decode cX7_best 46 = .ok (.invokevirtual 196, 3) := by decide +kernel
theorem dX7_best_49 : decode cX7_best 49 = .ok (.istore 5, 2) := by decide +kernel
theorem dX7_best_51 : decode cX7_best 51 = .ok (.iload_n 1, 1) := by decide +kernel
theorem dX7_best_52 : decode cX7_best 52 = .ok (.ifCond .lt 12, 3) := by decide +kernel
theorem dX7_best_55 : decode cX7_best 55 = .ok (.iload 5, 2) := by decide +kernel
theorem dX7_best_57 : decode cX7_best 57 = .ok (.iload_n 2, 1) := by decide +kernel
theorem dX7_best_58 : decode cX7_best 58 = .ok (.if_icmp .gt 6, 3) := by decide +kernel
theorem dX7_best_61 : decode cX7_best 61 = .ok (.goto 14, 3) := by decide +kernel
theorem dX7_best_64 : decode cX7_best 64 = .ok (.bipush 10, 2) := by decide +kernel
theorem dX7_best_66 : decode cX7_best 66 = .ok (.iload_n 3, 1) := by decide +kernel
theorem dX7_best_67 : decode cX7_best 67 = .ok (.imul, 1) := by decide +kernel
theorem dX7_best_68 : decode cX7_best 68 = .ok (.iload 4, 2) := by decide +kernel
theorem dX7_best_70 : decode cX7_best 70 = .ok (.iadd, 1) := by decide +kernel
theorem dX7_best_71 : decode cX7_best 71 = .ok (.istore_n 1, 1) := by decide +kernel
theorem dX7_best_72 : decode cX7_best 72 = .ok (.iload 5, 2) := by decide +kernel
theorem dX7_best_74 : decode cX7_best 74 = .ok (.istore_n 2, 1) := by decide +kernel
theorem dX7_best_75 : decode cX7_best 75 = .ok (.iinc 4 1, 3) := by decide +kernel
theorem dX7_best_78 : decode cX7_best 78 = .ok (.goto (-58), 3) := by decide +kernel
theorem dX7_best_81 : decode cX7_best 81 = .ok (.iinc 3 1, 3) := by decide +kernel
theorem dX7_best_84 : decode cX7_best 84 = .ok (.goto (-77), 3) := by decide +kernel
theorem dX7_best_87 : decode cX7_best 87 = .ok (.iload_n 1, 1) := by decide +kernel
theorem dX7_best_88 : decode cX7_best 88 = .ok (.ireturn, 1) := by decide +kernel
set_option maxRecDepth 20000 in
theorem ggX7_findPairs_X7_haveDanced : GoodIn wsX7_findPairs wsX7_haveDanced := goodIn_r _ [9, 10, 11, 12, 13, 14, 15, 16, 17, 18, 19, 20, 21, 22, 23, 24, 25, 26, 27, 28, 29, 30, 31, 32, 33, 34, 35, 36, 37, 38, 39, 40, 41, 42, 43] (by decide +kernel) (by decide +kernel)
set_option maxRecDepth 20000 in
theorem gX7_findPairs_X7_haveDanced : GoodIn wsX7_findPairs (wsV RX7 151 RX7 yX7_haveDanced wsX7_haveDanced) := goodIn_app (goodIn_of _ (by decide +kernel)) ggX7_findPairs_X7_haveDanced
theorem dX7_findPairs_0 : decode cX7_findPairs 0 = .ok (.aload_n 0, 1) := by decide +kernel
theorem dX7_findPairs_1 : decode cX7_findPairs 1 = .ok (.iconst 0, 1) := by decide +kernel
theorem dX7_findPairs_2 : decode cX7_findPairs 2 = .ok (.putfield 199, 3) := by decide +kernel
theorem dX7_findPairs_5 : decode cX7_findPairs 5 = .ok (.iconst 0, 1) := by decide +kernel
theorem dX7_findPairs_6 : decode cX7_findPairs 6 = .ok (.istore_n 2, 1) := by decide +kernel
theorem dX7_findPairs_7 : decode cX7_findPairs 7 = .ok (.iload_n 2, 1) := by decide +kernel
theorem dX7_findPairs_8 : decode cX7_findPairs 8 = .ok (.aload_n 0, 1) := by decide +kernel
theorem dX7_findPairs_9 : decode cX7_findPairs 9 = .ok (.getfield 70, 3) := by decide +kernel
theorem dX7_findPairs_12 : decode cX7_findPairs 12 = .ok (.if_icmp .ge 70, 3) := by decide +kernel
theorem dX7_findPairs_15 : decode cX7_findPairs 15 = .ok (.iload_n 2, 1) := by decide +kernel
theorem dX7_findPairs_16 : decode cX7_findPairs 16 = .ok (.iconst 1, 1) := by decide +kernel
theorem dX7_findPairs_17 : decode cX7_findPairs 17 = .ok (.iadd, 1) := by decide +kernel
theorem dX7_findPairs_18 : decode cX7_findPairs 18 = .ok (.istore_n 3, 1) := by decide +kernel
theorem dX7_findPairs_19 : decode cX7_findPairs 19 = .ok (.iload_n 3, 1) := by decide +kernel
theorem dX7_findPairs_20 : decode cX7_findPairs 20 = .ok (.aload_n 0, 1) := by decide +kernel
theorem dX7_findPairs_21 : decode cX7_findPairs 21 = .ok (.getfield 70, 3) := by decide +kernel
theorem dX7_findPairs_24 : decode cX7_findPairs 24 = .ok (.if_icmp .ge 52, 3) := by decide +kernel
theorem dX7_findPairs_27 : decode cX7_findPairs 27 = .ok (.aload_n 0, 1) := by decide +kernel
theorem dX7_findPairs_28 : decode cX7_findPairs 28 = .ok (.iload_n 2, 1) := by decide +kernel
theorem dX7_findPairs_29 : decode cX7_findPairs 29 = .ok (.iload_n 3, 1) := by decide +kernel
theorem dX7_findPairs_30 : decode cX7_findPairs 30 = .ok (.invokevirtual 151, 3) := by decide +kernel
theorem dX7_findPairs_33 : decode cX7_findPairs 33 = .ok (.iload_n 1, 1) := by decide +kernel
theorem dX7_findPairs_34 : decode cX7_findPairs 34 = .ok (.if_icmp .eq 6, 3) := by decide +kernel
theorem dX7_findPairs_37 : decode cX7_findPairs 37 = .ok (.goto 33, 3) := by decide +kernel
theorem dX7_findPairs_40 : decode cX7_findPairs 40 = .ok (.aload_n 0, 1) := by decide +kernel
theorem dX7_findPairs_41 : decode cX7_findPairs 41 = .ok (.getfield 52, 3) := by decide +kernel
theorem dX7_findPairs_44 : decode cX7_findPairs 44 = .ok (.aload_n 0, 1) := by decide +kernel
theorem dX7_findPairs_45 : decode cX7_findPairs 45 = .ok (.getfield 199, 3) := by decide +kernel
theorem dX7_findPairs_48 : decode cX7_findPairs 48 = .ok (.iload_n 2, 1) := by decide +kernel
theorem dX7_findPairs_49 : decode cX7_findPairs 49 = .ok (.iastore, 1) := by decide +kernel
theorem dX7_findPairs_50 : decode cX7_findPairs 50 = .ok (.aload_n 0, 1) := by decide +kernel
theorem dX7_findPairs_51 : decode cX7_findPairs 51 = .ok (.getfield 55, 3) := by decide +kernel
theorem dX7_findPairs_54 : decode cX7_findPairs 54 = .ok (.aload_n 0, 1) := by decide +kernel
theorem dX7_findPairs_55 : decode cX7_findPairs 55 = .ok (.getfield 199, 3) := by decide +kernel
theorem dX7_findPairs_58 : decode cX7_findPairs 58 = .ok (.iload_n 3, 1) := by decide +kernel
theorem dX7_findPairs_59 : decode cX7_findPairs 59 = .ok (.iastore, 1) := by decide +kernel
theorem dX7_findPairs_60 : decode cX7_findPairs 60 = .ok (.aload_n 0, 1) := by decide +kernel
theorem dX7_findPairs_61 : decode cX7_findPairs 61 = .ok (.dup, 1) := by decide +kernel
theorem dX7_findPairs_62 : decode cX7_findPairs 62 = .ok (.getfield 199, 3) := by decide +kernel
theorem dX7_findPairs_65 : decode cX7_findPairs 65 = .ok (.iconst 1, 1) := by decide +kernel
theorem dX7_findPairs_66 : decode cX7_findPairs 66 = .ok (.iadd, 1) := by decide +kernel
theorem dX7_findPairs_67 : decode cX7_findPairs 67 = .ok (.putfield 199, 3) := by decide +kernel
theorem dX7_findPairs_70 : decode cX7_findPairs 70 = .ok (.iinc 3 1, 3) := by decide +kernel
theorem dX7_findPairs_73 : decode cX7_findPairs 73 = .ok (.goto (-54), 3) := by decide +kernel
theorem dX7_findPairs_76 : decode cX7_findPairs 76 = .ok (.iinc 2 1, 3) := by decide +kernel
theorem dX7_findPairs_79 : decode cX7_findPairs 79 = .ok (.goto (-72), 3) := by decide +kernel
theorem dX7_findPairs_82 : decode cX7_findPairs 82 = .ok (.return_, 1) := by decide +kernel
set_option maxRecDepth 20000 in
theorem ggX7_doAll_X7_closes : GoodIn wsX7_doAll wsX7_closes := goodIn_r _ [7, 2, 8, 9, 10, 11, 12, 13, 14, 6, 15, 16, 17, 18, 19, 20, 21, 22, 23, 24, 25, 26, 27, 28, 29, 30, 31, 32, 33, 34, 35, 36, 37, 38, 39, 40, 41, 42, 43, 44, 45, 46, 47, 48, 49, 50, 51, 52, 53, 54, 55, 56, 57, 58, 59, 60, 61, 62, 63, 64, 65, 66] (by decide +kernel) (by decide +kernel)
set_option maxRecDepth 20000 in
theorem gX7_doAll_X7_closes : GoodIn wsX7_doAll (wsV RX7 187 RX7 yX7_closes wsX7_closes) := goodIn_app (goodIn_of _ (by decide +kernel)) ggX7_doAll_X7_closes
theorem dX7_doAll_0 : decode cX7_doAll 0 = .ok (.aload_n 0, 1) := by decide +kernel
theorem dX7_doAll_1 : decode cX7_doAll 1 = .ok (.aload_n 0, 1) := by decide +kernel
theorem dX7_doAll_2 : decode cX7_doAll 2 = .ok (.getfield 109, 3) := by decide +kernel
theorem dX7_doAll_5 : decode cX7_doAll 5 = .ok (.bipush (-9), 2) := by decide +kernel
theorem dX7_doAll_7 : decode cX7_doAll 7 = .ok (.invokevirtual 187, 3) := by decide +kernel
theorem dX7_doAll_10 : decode cX7_doAll 10 = .ok (.aload_n 0, 1) := by decide +kernel
theorem dX7_doAll_11 : decode cX7_doAll 11 = .ok (.getfield 70, 3) := by decide +kernel
theorem dX7_doAll_14 : decode cX7_doAll 14 = .ok (.aload_n 0, 1) := by decide +kernel
theorem dX7_doAll_15 : decode cX7_doAll 15 = .ok (.getfield 70, 3) := by decide +kernel
theorem dX7_doAll_18 : decode cX7_doAll 18 = .ok (.iconst 1, 1) := by decide +kernel
theorem dX7_doAll_19 : decode cX7_doAll 19 = .ok (.isub, 1) := by decide +kernel
theorem dX7_doAll_20 : decode cX7_doAll 20 = .ok (.imul, 1) := by decide +kernel
theorem dX7_doAll_21 : decode cX7_doAll 21 = .ok (.iconst 2, 1) := by decide +kernel
theorem dX7_doAll_22 : decode cX7_doAll 22 = .ok (.idiv, 1) := by decide +kernel
theorem dX7_doAll_23 : decode cX7_doAll 23 = .ok (.if_icmp .ne 7, 3) := by decide +kernel
theorem dX7_doAll_26 : decode cX7_doAll 26 = .ok (.iconst 1, 1) := by decide +kernel
theorem dX7_doAll_27 : decode cX7_doAll 27 = .ok (.goto 4, 3) := by decide +kernel
theorem dX7_doAll_30 : decode cX7_doAll 30 = .ok (.iconst 0, 1) := by decide +kernel
theorem dX7_doAll_31 : decode cX7_doAll 31 = .ok (.ireturn, 1) := by decide +kernel
set_option maxRecDepth 20000 in
theorem ggX7_fewestOf_X7_doAll : GoodIn wsX7_fewestOf wsX7_doAll := goodIn_r _ [9, 10, 11, 12, 13, 14, 8, 15, 16, 17, 18, 19, 20, 21, 22, 23, 24, 25, 26, 27, 28, 29, 30, 31, 32, 33, 34, 35, 36, 37, 38, 39, 40, 41, 62, 63, 64, 65, 66, 67, 68, 69, 70, 71, 72, 73, 74, 75, 76, 77, 78, 79, 80, 81, 82, 83, 84, 85, 86, 87, 88, 89, 90, 91, 92, 93, 94] (by decide +kernel) (by decide +kernel)
set_option maxRecDepth 20000 in
theorem gX7_fewestOf_X7_doAll : GoodIn wsX7_fewestOf (wsV RX7 205 RX7 yX7_doAll wsX7_doAll) := goodIn_app (goodIn_of _ (by decide +kernel)) ggX7_fewestOf_X7_doAll
set_option maxRecDepth 20000 in
theorem ggX7_fewestOf_X7_findPairs : GoodIn wsX7_fewestOf wsX7_findPairs := goodIn_r _ [45, 2, 11, 3, 4, 20, 21, 22, 8, 23, 17, 62, 63, 64, 65, 66, 67, 68, 69, 70, 71, 72, 73, 74, 75, 76, 77, 78, 79, 80, 81, 82, 83, 84, 85, 86, 87, 88, 89, 90, 91, 92, 93, 94] (by decide +kernel) (by decide +kernel)
set_option maxRecDepth 20000 in
theorem gX7_fewestOf_X7_findPairs : GoodIn wsX7_fewestOf (wsV RX7 208 RX7 yX7_findPairs wsX7_findPairs) := goodIn_app (goodIn_of _ (by decide +kernel)) ggX7_fewestOf_X7_findPairs
set_option maxRecDepth 20000 in
theorem ggX7_fewestOf_X7_joins : GoodIn wsX7_fewestOf wsX7_joins := goodIn_r _ [49, 17, 62, 63, 64, 65, 66, 67, 68, 69, 70, 71, 72, 73, 74, 75, 76, 77, 78, 79, 80, 81, 82, 83, 84, 85, 86, 87, 88, 89, 90, 91, 92, 93, 94] (by decide +kernel) (by decide +kernel)
set_option maxRecDepth 20000 in
theorem gX7_fewestOf_X7_joins : GoodIn wsX7_fewestOf (wsV RX7 116 RX7 yX7_joins wsX7_joins) := goodIn_app (goodIn_of _ (by decide +kernel)) ggX7_fewestOf_X7_joins
set_option maxRecDepth 20000 in
theorem ggX7_fewestOf_X7_doAllWith : GoodIn wsX7_fewestOf wsX7_doAllWith := goodIn_r _ [53, 2, 3, 4, 5, 6, 7, 8, 9, 10, 11, 12, 13, 14, 15, 16, 17, 18, 19, 20, 21, 22, 23, 24, 25, 26, 27, 28, 29, 30, 31, 32, 33, 34, 35, 36, 37, 38, 39, 40, 41, 46, 47, 48, 49, 54, 55, 56, 57, 58, 59, 60, 61, 62, 63, 64, 65, 66, 67, 68, 69, 70, 71, 72, 73, 74, 75, 76, 77, 78, 79, 80, 81, 82, 83, 84, 85, 86, 87, 88, 89, 90, 91, 92, 93, 94] (by decide +kernel) (by decide +kernel)
set_option maxRecDepth 20000 in
theorem gX7_fewestOf_X7_doAllWith : GoodIn wsX7_fewestOf (wsV RX7 212 RX7 yX7_doAllWith wsX7_doAllWith) := goodIn_app (goodIn_of _ (by decide +kernel)) ggX7_fewestOf_X7_doAllWith
set_option maxRecDepth 20000 in
theorem ggX7_fewestOf_X7_parts : GoodIn wsX7_fewestOf wsX7_parts := goodIn_r _ [61, 17, 62, 63, 64, 65, 66, 67, 68, 69, 70, 71, 72, 73, 74, 75, 76, 77, 78, 79, 80, 81, 82, 83, 84, 85, 86, 87, 88, 89, 90, 91, 92, 93, 94] (by decide +kernel) (by decide +kernel)
set_option maxRecDepth 20000 in
theorem gX7_fewestOf_X7_parts : GoodIn wsX7_fewestOf (wsV RX7 193 RX7 yX7_parts wsX7_parts) := goodIn_app (goodIn_of _ (by decide +kernel)) ggX7_fewestOf_X7_parts
theorem dX7_fewestOf_0 : decode cX7_fewestOf 0 = .ok (.aload_n 0, 1) := by decide +kernel
theorem dX7_fewestOf_1 : decode cX7_fewestOf 1 = .ok (.bipush (-9), 2) := by decide +kernel
theorem dX7_fewestOf_3 : decode cX7_fewestOf 3 = .ok (.putfield 202, 3) := by decide +kernel
theorem dX7_fewestOf_6 : decode cX7_fewestOf 6 = .ok (.aload_n 0, 1) := by decide +kernel
theorem dX7_fewestOf_7 : decode cX7_fewestOf 7 = .ok (.invokevirtual 205, 3) := by decide +kernel
theorem dX7_fewestOf_10 : decode cX7_fewestOf 10 = .ok (.ifCond .eq 5, 3) := by decide +kernel
theorem dX7_fewestOf_13 : decode cX7_fewestOf 13 = .ok (.iconst 0, 1) := by decide +kernel
theorem dX7_fewestOf_14 : decode cX7_fewestOf 14 = .ok (.ireturn, 1) := by decide +kernel
theorem dX7_fewestOf_15 : decode cX7_fewestOf 15 = .ok (.aload_n 0, 1) := by decide +kernel
theorem dX7_fewestOf_16 : decode cX7_fewestOf 16 = .ok (.iconst 0, 1) := by decide +kernel
theorem dX7_fewestOf_17 : decode cX7_fewestOf 17 = .ok (.invokevirtual 208, 3) := by decide +kernel
theorem dX7_fewestOf_20 : decode cX7_fewestOf 20 = .ok (.iconst 1, 1) := by decide +kernel
theorem dX7_fewestOf_21 : decode cX7_fewestOf 21 = .ok (.istore_n 1, 1) := by decide +kernel
theorem dX7_fewestOf_22 : decode cX7_fewestOf 22 = .ok (.iload_n 1, 1) := by decide +kernel
theorem dX7_fewestOf_23 : decode cX7_fewestOf 23 = .ok (.iconst 4, 1) := by decide +kernel
theorem dX7_fewestOf_24 : decode cX7_fewestOf 24 = .ok (.if_icmp .ge 97, 3) := by decide +kernel
theorem dX7_fewestOf_27 : decode cX7_fewestOf 27 = .ok (.iconst 0, 1) := by decide +kernel
theorem dX7_fewestOf_28 : decode cX7_fewestOf 28 = .ok (.istore_n 2, 1) := by decide +kernel
theorem dX7_fewestOf_29 : decode cX7_fewestOf 29 = .ok (.iload_n 2, 1) := by decide +kernel
theorem dX7_fewestOf_30 : decode cX7_fewestOf 30 = .ok (.aload_n 0, 1) := by decide +kernel
theorem dX7_fewestOf_31 : decode cX7_fewestOf 31 = .ok (.getfield 199, 3) := by decide +kernel
theorem dX7_fewestOf_34 : decode cX7_fewestOf 34 = .ok (.if_icmp .ge 81, 3) := by decide +kernel
theorem dX7_fewestOf_37 : decode cX7_fewestOf 37 = .ok (.aload_n 0, 1) := by decide +kernel
theorem dX7_fewestOf_38 : decode cX7_fewestOf 38 = .ok (.aload_n 0, 1) := by decide +kernel
theorem dX7_fewestOf_39 : decode cX7_fewestOf 39 = .ok (.getfield 52, 3) := by decide +kernel
theorem dX7_fewestOf_42 : decode cX7_fewestOf 42 = .ok (.iload_n 2, 1) := by decide +kernel
theorem dX7_fewestOf_43 : decode cX7_fewestOf 43 = .ok (.iaload, 1) := by decide +kernel
theorem dX7_fewestOf_44 : decode cX7_fewestOf 44 = .ok (.aload_n 0, 1) := by decide +kernel
theorem dX7_fewestOf_45 : decode cX7_fewestOf 45 = .ok (.getfield 55, 3) := by decide +kernel
theorem dX7_fewestOf_48 : decode cX7_fewestOf 48 = .ok (.iload_n 2, 1) := by decide +kernel
theorem dX7_fewestOf_49 : decode cX7_fewestOf 49 = .ok (.iaload, 1) := by decide +kernel
theorem dX7_fewestOf_50 : decode cX7_fewestOf 50 = .ok (.invokevirtual 116, 3) := by decide +kernel
theorem dX7_fewestOf_53 : decode cX7_fewestOf 53 = .ok (.aload_n 0, 1) := by decide +kernel
theorem dX7_fewestOf_54 : decode cX7_fewestOf 54 = .ok (.iload_n 1, 1) := by decide +kernel
theorem dX7_fewestOf_55 : decode cX7_fewestOf 55 = .ok (.iconst 1, 1) := by decide +kernel
theorem dX7_fewestOf_56 : decode cX7_fewestOf 56 = .ok (.isub, 1) := by decide +kernel
theorem dX7_fewestOf_57 : decode cX7_fewestOf 57 = .ok (.iload_n 2, 1) := by decide +kernel
theorem dX7_fewestOf_58 : decode cX7_fewestOf 58 = .ok (.iconst 1, 1) := by decide +kernel
theorem dX7_fewestOf_59 : decode cX7_fewestOf 59 = .ok (.iadd, 1) := by decide +kernel
theorem dX7_fewestOf_60 : decode cX7_fewestOf 60 = .ok (.invokevirtual 212, 3) := by decide +kernel
theorem dX7_fewestOf_63 : decode cX7_fewestOf 63 = .ok (.istore_n 3, 1) := by decide +kernel
theorem dX7_fewestOf_64 : decode cX7_fewestOf 64 = .ok (.aload_n 0, 1) := by decide +kernel
theorem dX7_fewestOf_65 : decode cX7_fewestOf 65 = .ok (.aload_n 0, 1) := by decide +kernel
theorem dX7_fewestOf_66 : decode cX7_fewestOf 66 = .ok (.getfield 52, 3) := by decide +kernel
theorem dX7_fewestOf_69 : decode cX7_fewestOf 69 = .ok (.iload_n 2, 1) := by decide +kernel
theorem dX7_fewestOf_70 : decode cX7_fewestOf 70 = .ok (.iaload, 1) := by decide +kernel
theorem dX7_fewestOf_71 : decode cX7_fewestOf 71 = .ok (.aload_n 0, 1) := by decide +kernel
theorem dX7_fewestOf_72 : decode cX7_fewestOf 72 = .ok (.getfield 55, 3) := by decide +kernel
theorem dX7_fewestOf_75 : decode cX7_fewestOf 75 = .ok (.iload_n 2, 1) := by decide +kernel
theorem dX7_fewestOf_76 : decode cX7_fewestOf 76 = .ok (.iaload, 1) := by decide +kernel
theorem dX7_fewestOf_77 : decode cX7_fewestOf 77 = .ok (.invokevirtual 193, 3) := by decide +kernel
theorem dX7_fewestOf_80 : decode cX7_fewestOf 80 = .ok (.iload_n 3, 1) := by decide +kernel
theorem dX7_fewestOf_81 : decode cX7_fewestOf 81 = .ok (.ifCond .ne 6, 3) := by decide +kernel
theorem dX7_fewestOf_84 : decode cX7_fewestOf 84 = .ok (.goto 25, 3) := by decide +kernel
theorem dX7_fewestOf_87 : decode cX7_fewestOf 87 = .ok (.aload_n 0, 1) := by decide +kernel
theorem dX7_fewestOf_88 : decode cX7_fewestOf 88 = .ok (.bipush 10, 2) := by decide +kernel
theorem dX7_fewestOf_90 : decode cX7_fewestOf 90 = .ok (.aload_n 0, 1) := by decide +kernel
theorem dX7_fewestOf_91 : decode cX7_fewestOf 91 = .ok (.getfield 52, 3) := by decide +kernel
theorem dX7_fewestOf_94 : decode cX7_fewestOf 94 = .ok (.iload_n 2, 1) := by decide +kernel
theorem dX7_fewestOf_95 : decode cX7_fewestOf 95 = .ok (.iaload, 1) := by decide +kernel
theorem dX7_fewestOf_96 : decode cX7_fewestOf 96 = .ok (.imul, 1) := by decide +kernel
theorem dX7_fewestOf_97 : decode cX7_fewestOf 97 = .ok (.aload_n 0, 1) := by decide +kernel
theorem dX7_fewestOf_98 : decode cX7_fewestOf 98 = .ok (.getfield 55, 3) := by decide +kernel
theorem dX7_fewestOf_101 : decode cX7_fewestOf 101 = .ok (.iload_n 2, 1) := by decide +kernel
theorem dX7_fewestOf_102 : decode cX7_fewestOf 102 = .ok (.iaload, 1) := by decide +kernel
theorem dX7_fewestOf_103 : decode cX7_fewestOf 103 = .ok (.iadd, 1) := by decide +kernel
theorem dX7_fewestOf_104 : decode cX7_fewestOf 104 = .ok (.putfield 202, 3) := by decide +kernel
theorem dX7_fewestOf_107 : decode cX7_fewestOf 107 = .ok (.iload_n 1, 1) := by decide +kernel
theorem dX7_fewestOf_108 : decode cX7_fewestOf 108 = .ok (.ireturn, 1) := by decide +kernel
theorem dX7_fewestOf_109 : decode cX7_fewestOf 109 = .ok (.iinc 2 1, 3) := by decide +kernel
theorem dX7_fewestOf_112 : decode cX7_fewestOf 112 = .ok (.goto (-83), 3) := by decide +kernel
theorem dX7_fewestOf_115 : decode cX7_fewestOf 115 = .ok (.iinc 1 1, 3) := by decide +kernel
theorem dX7_fewestOf_118 : decode cX7_fewestOf 118 = .ok (.goto (-96), 3) := by decide +kernel
theorem dX7_fewestOf_121 : decode cX7_fewestOf 121 = .ok (.bipush (-9), 2) := by decide +kernel
theorem dX7_fewestOf_123 : decode cX7_fewestOf 123 = .ok (.ireturn, 1) := by decide +kernel
set_option maxRecDepth 20000 in
theorem ggX7_doAllWith_X7_doAll : GoodIn wsX7_doAllWith wsX7_doAll := goodIn_r _ [8, 9, 10, 11, 12, 13, 7, 14, 15, 16, 17, 18, 19, 20, 21, 22, 23, 24, 25, 26, 27, 28, 29, 30, 31, 32, 33, 34, 35, 36, 37, 38, 39, 40, 53, 54, 55, 56, 57, 58, 59, 60, 61, 62, 63, 64, 65, 66, 67, 68, 69, 70, 71, 72, 73, 74, 75, 76, 77, 78, 79, 80, 81, 82, 83, 84, 85] (by decide +kernel) (by decide +kernel)
set_option maxRecDepth 20000 in
theorem gX7_doAllWith_X7_doAll : GoodIn wsX7_doAllWith (wsV RX7 205 RX7 yX7_doAll wsX7_doAll) := goodIn_app (goodIn_of _ (by decide +kernel)) ggX7_doAllWith_X7_doAll
set_option maxRecDepth 20000 in
theorem ggX7_doAllWith_X7_joins : GoodIn wsX7_doAllWith wsX7_joins := goodIn_r _ [44, 16, 53, 54, 55, 56, 57, 58, 59, 60, 61, 62, 63, 64, 65, 66, 67, 68, 69, 70, 71, 72, 73, 74, 75, 76, 77, 78, 79, 80, 81, 82, 83, 84, 85] (by decide +kernel) (by decide +kernel)
set_option maxRecDepth 20000 in
theorem gX7_doAllWith_X7_joins : GoodIn wsX7_doAllWith (wsV RX7 116 RX7 yX7_joins wsX7_joins) := goodIn_app (goodIn_of _ (by decide +kernel)) ggX7_doAllWith_X7_joins
set_option maxRecDepth 20000 in
theorem ggX7_doAllWith_X7_doAllWithOneMore : GoodIn wsX7_doAllWith wsX7_doAllWithOneMore := goodIn_r _ [48, 1, 2, 3, 41, 42, 43, 7, 44, 16, 4, 5, 6, 8, 9, 10, 11, 12, 13, 14, 15, 17, 18, 19, 20, 21, 22, 23, 24, 25, 26, 27, 28, 29, 30, 31, 32, 33, 34, 35, 36, 37, 38, 39, 40, 49, 50, 51, 52, 53, 54, 55, 56, 57, 58, 59, 60, 61, 62, 63, 64, 65, 66, 67, 68, 69, 70, 71, 72, 73, 74, 75, 76, 77, 78, 79, 80, 81, 82, 83, 84, 85] (by decide +kernel) (by decide +kernel)
set_option maxRecDepth 20000 in
theorem gX7_doAllWith_X7_doAllWithOneMore : GoodIn wsX7_doAllWith (wsV RX7 215 RX7 yX7_doAllWithOneMore wsX7_doAllWithOneMore) := goodIn_app (goodIn_of _ (by decide +kernel)) ggX7_doAllWith_X7_doAllWithOneMore
set_option maxRecDepth 20000 in
theorem ggX7_doAllWith_X7_parts : GoodIn wsX7_doAllWith wsX7_parts := goodIn_r _ [52, 16, 53, 54, 55, 56, 57, 58, 59, 60, 61, 62, 63, 64, 65, 66, 67, 68, 69, 70, 71, 72, 73, 74, 75, 76, 77, 78, 79, 80, 81, 82, 83, 84, 85] (by decide +kernel) (by decide +kernel)
set_option maxRecDepth 20000 in
theorem gX7_doAllWith_X7_parts : GoodIn wsX7_doAllWith (wsV RX7 193 RX7 yX7_parts wsX7_parts) := goodIn_app (goodIn_of _ (by decide +kernel)) ggX7_doAllWith_X7_parts
theorem dX7_doAllWith_0 : decode cX7_doAllWith 0 = .ok (.iload_n 1, 1) := by decide +kernel
theorem dX7_doAllWith_1 : decode cX7_doAllWith 1 = .ok (.ifCond .ne 8, 3) := by decide +kernel
theorem dX7_doAllWith_4 : decode cX7_doAllWith 4 = .ok (.aload_n 0, 1) := by decide +kernel
theorem dX7_doAllWith_5 : decode cX7_doAllWith 5 = .ok (.invokevirtual 205, 3) := by decide +kernel
theorem dX7_doAllWith_8 : decode cX7_doAllWith 8 = .ok (.ireturn, 1) := by decide +kernel
theorem dX7_doAllWith_9 : decode cX7_doAllWith 9 = .ok (.iload_n 2, 1) := by decide +kernel
theorem dX7_doAllWith_10 : decode cX7_doAllWith 10 = .ok (.istore_n 3, 1) := by decide +kernel
theorem dX7_doAllWith_11 : decode cX7_doAllWith 11 = .ok (.iload_n 3, 1) := by decide +kernel
theorem dX7_doAllWith_12 : decode cX7_doAllWith 12 = .ok (.aload_n 0, 1) := by decide +kernel
theorem dX7_doAllWith_13 : decode cX7_doAllWith 13 = .ok (.getfield 199, 3) := by decide +kernel
theorem dX7_doAllWith_16 : decode cX7_doAllWith 16 = .ok (.if_icmp .ge 69, 3) := by decide +kernel
theorem dX7_doAllWith_19 : decode cX7_doAllWith 19 = .ok (.aload_n 0, 1) := by decide +kernel
theorem dX7_doAllWith_20 : decode cX7_doAllWith 20 = .ok (.aload_n 0, 1) := by decide +kernel
theorem dX7_doAllWith_21 : decode cX7_doAllWith 21 = .ok (.getfield 52, 3) := by decide +kernel
theorem dX7_doAllWith_24 : decode cX7_doAllWith 24 = .ok (.iload_n 3, 1) := by decide +kernel
theorem dX7_doAllWith_25 : decode cX7_doAllWith 25 = .ok (.iaload, 1) := by decide +kernel
theorem dX7_doAllWith_26 : decode cX7_doAllWith 26 = .ok (.aload_n 0, 1) := by decide +kernel
theorem dX7_doAllWith_27 : decode cX7_doAllWith 27 = .ok (.getfield 55, 3) := by decide +kernel
theorem dX7_doAllWith_30 : decode cX7_doAllWith 30 = .ok (.iload_n 3, 1) := by decide +kernel
theorem dX7_doAllWith_31 : decode cX7_doAllWith 31 = .ok (.iaload, 1) := by decide +kernel
theorem dX7_doAllWith_32 : decode cX7_doAllWith 32 = .ok (.invokevirtual 116, 3) := by decide +kernel
theorem dX7_doAllWith_35 : decode cX7_doAllWith 35 = .ok (.iload_n 1, 1) := by decide +kernel
theorem dX7_doAllWith_36 : decode cX7_doAllWith 36 = .ok (.iconst 1, 1) := by decide +kernel
theorem dX7_doAllWith_37 : decode cX7_doAllWith 37 = .ok (.if_icmp .ne 10, 3) := by decide +kernel
theorem dX7_doAllWith_40 : decode cX7_doAllWith 40 = .ok (.aload_n 0, 1) := by decide +kernel
theorem dX7_doAllWith_41 : decode cX7_doAllWith 41 = .ok (.invokevirtual 205, 3) := by decide +kernel
theorem dX7_doAllWith_44 : decode cX7_doAllWith 44 = .ok (.goto 10, 3) := by decide +kernel
theorem dX7_doAllWith_47 : decode cX7_doAllWith 47 = .ok (.aload_n 0, 1) := by decide +kernel
theorem dX7_doAllWith_48 : decode cX7_doAllWith 48 = .ok (.iload_n 3, 1) := by decide +kernel
theorem dX7_doAllWith_49 : decode cX7_doAllWith 49 = .ok (.iconst 1, 1) := by decide +kernel
theorem dX7_doAllWith_50 : decode cX7_doAllWith 50 = .ok (.iadd, 1) := by decide +kernel
theorem dX7_doAllWith_51 : decode cX7_doAllWith 51 = .ok (.invokevirtual 215, 3) := by decide +kernel
theorem dX7_doAllWith_54 : decode cX7_doAllWith 54 = .ok (.istore 4, 2) := by decide +kernel
theorem dX7_doAllWith_56 : decode cX7_doAllWith 56 = .ok (.aload_n 0, 1) := by decide +kernel
theorem dX7_doAllWith_57 : decode cX7_doAllWith 57 = .ok (.aload_n 0, 1) := by decide +kernel
theorem dX7_doAllWith_58 : decode cX7_doAllWith 58 = .ok (.getfield 52, 3) := by decide +kernel
theorem dX7_doAllWith_61 : decode cX7_doAllWith 61 = .ok (.iload_n 3, 1) := by decide +kernel
theorem dX7_doAllWith_62 : decode cX7_doAllWith 62 = .ok (.iaload, 1) := by decide +kernel
theorem dX7_doAllWith_63 : decode cX7_doAllWith 63 = .ok (.aload_n 0, 1) := by decide +kernel
theorem dX7_doAllWith_64 : decode cX7_doAllWith 64 = .ok (.getfield 55, 3) := by decide +kernel
theorem dX7_doAllWith_67 : decode cX7_doAllWith 67 = .ok (.iload_n 3, 1) := by decide +kernel
theorem dX7_doAllWith_68 : decode cX7_doAllWith 68 = .ok (.iaload, 1) := by decide +kernel
theorem dX7_doAllWith_69 : decode cX7_doAllWith 69 = .ok (.invokevirtual 193, 3) := by decide +kernel
theorem dX7_doAllWith_72 : decode cX7_doAllWith 72 = .ok (.iload 4, 2) := by decide +kernel
theorem dX7_doAllWith_74 : decode cX7_doAllWith 74 = .ok (.ifCond .eq 5, 3) := by decide +kernel
theorem dX7_doAllWith_77 : decode cX7_doAllWith 77 = .ok (.iconst 1, 1) := by decide +kernel
theorem dX7_doAllWith_78 : decode cX7_doAllWith 78 = .ok (.ireturn, 1) := by decide +kernel
theorem dX7_doAllWith_79 : decode cX7_doAllWith 79 = .ok (.iinc 3 1, 3) := by decide +kernel
theorem dX7_doAllWith_82 : decode cX7_doAllWith 82 = .ok (.goto (-71), 3) := by decide +kernel
theorem dX7_doAllWith_85 : decode cX7_doAllWith 85 = .ok (.iconst 0, 1) := by decide +kernel
theorem dX7_doAllWith_86 : decode cX7_doAllWith 86 = .ok (.ireturn, 1) := by decide +kernel
set_option maxRecDepth 20000 in
theorem ggX7_doAllWithOneMore_X7_joins : GoodIn wsX7_doAllWithOneMore wsX7_joins := goodIn_r _ [8, 9, 49, 50, 51, 52, 53, 54, 55, 56, 57, 58, 59, 60, 61, 62, 63, 64, 65, 66, 67, 68, 69, 70, 71, 72, 73, 74, 75, 76, 77, 78, 79, 80, 81] (by decide +kernel) (by decide +kernel)
set_option maxRecDepth 20000 in
theorem gX7_doAllWithOneMore_X7_joins : GoodIn wsX7_doAllWithOneMore (wsV RX7 116 RX7 yX7_joins wsX7_joins) := goodIn_app (goodIn_of _ (by decide +kernel)) ggX7_doAllWithOneMore_X7_joins
set_option maxRecDepth 20000 in
theorem ggX7_doAllWithOneMore_X7_doAll : GoodIn wsX7_doAllWithOneMore wsX7_doAll := goodIn_r _ [13, 14, 15, 16, 17, 18, 7, 19, 20, 9, 21, 22, 23, 24, 25, 26, 27, 28, 29, 30, 31, 32, 33, 34, 35, 36, 37, 38, 39, 40, 41, 42, 43, 44, 49, 50, 51, 52, 53, 54, 55, 56, 57, 58, 59, 60, 61, 62, 63, 64, 65, 66, 67, 68, 69, 70, 71, 72, 73, 74, 75, 76, 77, 78, 79, 80, 81] (by decide +kernel) (by decide +kernel)
set_option maxRecDepth 20000 in
theorem gX7_doAllWithOneMore_X7_doAll : GoodIn wsX7_doAllWithOneMore (wsV RX7 205 RX7 yX7_doAll wsX7_doAll) := goodIn_app (goodIn_of _ (by decide +kernel)) ggX7_doAllWithOneMore_X7_doAll
set_option maxRecDepth 20000 in
theorem ggX7_doAllWithOneMore_X7_parts : GoodIn wsX7_doAllWithOneMore wsX7_parts := goodIn_r _ [48, 9, 49, 50, 51, 52, 53, 54, 55, 56, 57, 58, 59, 60, 61, 62, 63, 64, 65, 66, 67, 68, 69, 70, 71, 72, 73, 74, 75, 76, 77, 78, 79, 80, 81] (by decide +kernel) (by decide +kernel)
set_option maxRecDepth 20000 in
theorem gX7_doAllWithOneMore_X7_parts : GoodIn wsX7_doAllWithOneMore (wsV RX7 193 RX7 yX7_parts wsX7_parts) := goodIn_app (goodIn_of _ (by decide +kernel)) ggX7_doAllWithOneMore_X7_parts
theorem dX7_doAllWithOneMore_0 : decode cX7_doAllWithOneMore 0 = .ok (.iload_n 1, 1) := by decide +kernel
theorem dX7_doAllWithOneMore_1 : decode cX7_doAllWithOneMore 1 = .ok (.istore_n 2, 1) := by decide +kernel
theorem dX7_doAllWithOneMore_2 : decode cX7_doAllWithOneMore 2 = .ok (.iload_n 2, 1) := by decide +kernel
theorem dX7_doAllWithOneMore_3 : decode cX7_doAllWithOneMore 3 = .ok (.aload_n 0, 1) := by decide +kernel
theorem dX7_doAllWithOneMore_4 : decode cX7_doAllWithOneMore 4 = .ok (.getfield 199, 3) := by decide +kernel
theorem dX7_doAllWithOneMore_7 : decode cX7_doAllWithOneMore 7 = .ok (.if_icmp .ge 52, 3) := by decide +kernel
theorem dX7_doAllWithOneMore_10 : decode cX7_doAllWithOneMore 10 = .ok (.aload_n 0, 1) := by decide +kernel
theorem dX7_doAllWithOneMore_11 : decode cX7_doAllWithOneMore 11 = .ok (.aload_n 0, 1) := by decide +kernel
theorem dX7_doAllWithOneMore_12 : decode cX7_doAllWithOneMore 12 = .ok (.getfield 52, 3) := by decide +kernel
theorem dX7_doAllWithOneMore_15 : decode cX7_doAllWithOneMore 15 = .ok (.iload_n 2, 1) := by decide +kernel
theorem dX7_doAllWithOneMore_16 : decode cX7_doAllWithOneMore 16 = .ok (.iaload, 1) := by decide +kernel
theorem dX7_doAllWithOneMore_17 : decode cX7_doAllWithOneMore 17 = .ok (.aload_n 0, 1) := by decide +kernel
theorem dX7_doAllWithOneMore_18 : decode cX7_doAllWithOneMore 18 = .ok (.getfield 55, 3) := by decide +kernel
theorem dX7_doAllWithOneMore_21 : decode cX7_doAllWithOneMore 21 = .ok (.iload_n 2, 1) := by decide +kernel
theorem dX7_doAllWithOneMore_22 : decode cX7_doAllWithOneMore 22 = .ok (.iaload, 1) := by decide +kernel
theorem dX7_doAllWithOneMore_23 : decode cX7_doAllWithOneMore 23 = .ok (.invokevirtual 116, 3) := by decide +kernel
theorem dX7_doAllWithOneMore_26 : decode cX7_doAllWithOneMore 26 = .ok (.aload_n 0, 1) := by decide +kernel
theorem dX7_doAllWithOneMore_27 : decode cX7_doAllWithOneMore 27 = .ok (.invokevirtual 205, 3) := by decide +kernel
theorem dX7_doAllWithOneMore_30 : decode cX7_doAllWithOneMore 30 = .ok (.istore_n 3, 1) := by decide +kernel
theorem dX7_doAllWithOneMore_31 : decode cX7_doAllWithOneMore 31 = .ok (.aload_n 0, 1) := by decide +kernel
theorem dX7_doAllWithOneMore_32 : decode cX7_doAllWithOneMore 32 = .ok (.aload_n 0, 1) := by decide +kernel
theorem dX7_doAllWithOneMore_33 : decode cX7_doAllWithOneMore 33 = .ok (.getfield 52, 3) := by decide +kernel
theorem dX7_doAllWithOneMore_36 : decode cX7_doAllWithOneMore 36 = .ok (.iload_n 2, 1) := by decide +kernel
theorem dX7_doAllWithOneMore_37 : decode cX7_doAllWithOneMore 37 = .ok (.iaload, 1) := by decide +kernel
theorem dX7_doAllWithOneMore_38 : decode cX7_doAllWithOneMore 38 = .ok (.aload_n 0, 1) := by decide +kernel
theorem dX7_doAllWithOneMore_39 : decode cX7_doAllWithOneMore 39 = .ok (.getfield 55, 3) := by decide +kernel
theorem dX7_doAllWithOneMore_42 : decode cX7_doAllWithOneMore 42 = .ok (.iload_n 2, 1) := by decide +kernel
theorem dX7_doAllWithOneMore_43 : decode cX7_doAllWithOneMore 43 = .ok (.iaload, 1) := by decide +kernel
theorem dX7_doAllWithOneMore_44 : decode cX7_doAllWithOneMore 44 = .ok (.invokevirtual 193, 3) := by decide +kernel
theorem dX7_doAllWithOneMore_47 : decode cX7_doAllWithOneMore 47 = .ok (.iload_n 3, 1) := by decide +kernel
theorem dX7_doAllWithOneMore_48 : decode cX7_doAllWithOneMore 48 = .ok (.ifCond .eq 5, 3) := by decide +kernel
theorem dX7_doAllWithOneMore_51 : decode cX7_doAllWithOneMore 51 = .ok (.iconst 1, 1) := by decide +kernel
theorem dX7_doAllWithOneMore_52 : decode cX7_doAllWithOneMore 52 = .ok (.ireturn, 1) := by decide +kernel
theorem dX7_doAllWithOneMore_53 : decode cX7_doAllWithOneMore 53 = .ok (.iinc 2 1, 3) := by decide +kernel
theorem dX7_doAllWithOneMore_56 : decode cX7_doAllWithOneMore 56 = .ok (.goto (-54), 3) := by decide +kernel
theorem dX7_doAllWithOneMore_59 : decode cX7_doAllWithOneMore 59 = .ok (.iconst 0, 1) := by decide +kernel
theorem dX7_doAllWithOneMore_60 : decode cX7_doAllWithOneMore 60 = .ok (.ireturn, 1) := by decide +kernel
set_option maxRecDepth 20000 in
theorem ggX7_fewest_X7_isIn : GoodIn wsX7_fewest wsX7_isIn := goodIn_r _ [5] (by decide +kernel) (by decide +kernel)
set_option maxRecDepth 20000 in
theorem gX7_fewest_X7_isIn : GoodIn wsX7_fewest (va_wsS RX7 99 yX7_isIn wsX7_isIn) := goodIn_app (goodIn_of _ (by decide +kernel)) ggX7_fewest_X7_isIn
set_option maxRecDepth 20000 in
theorem ggX7_fewest_X7_no : GoodIn wsX7_fewest wsX7_no := goodIn_r _ [9, 10, 74, 75, 76, 77, 78, 79, 80, 81, 82, 83, 84, 85, 86, 87, 88, 89, 90, 91, 92, 93, 94, 95, 96, 97, 98, 99, 100, 101, 102, 103, 104, 105, 106] (by decide +kernel) (by decide +kernel)
set_option maxRecDepth 20000 in
theorem gX7_fewest_X7_no : GoodIn wsX7_fewest (wsV RX7 89 RX7 yX7_no wsX7_no) := goodIn_app (goodIn_of _ (by decide +kernel)) ggX7_fewest_X7_no
set_option maxRecDepth 20000 in
theorem ggX7_fewest_X7_fewestOf : GoodIn wsX7_fewest wsX7_fewestOf := goodIn_r _ [14, 1, 15, 16, 17, 18, 19, 20, 4, 21, 22, 23, 24, 25, 26, 27, 28, 29, 30, 31, 32, 33, 34, 35, 36, 37, 38, 39, 40, 41, 42, 43, 44, 45, 46, 47, 48, 49, 50, 51, 52, 53, 54, 55, 56, 57, 58, 59, 60, 61, 62, 63, 64, 65, 66, 67, 68, 69, 70, 71, 72, 73, 74, 75, 76, 77, 78, 79, 80, 81, 82, 83, 84, 85, 86, 87, 88, 89, 90, 91, 92, 93, 94, 95, 96, 97, 98, 99, 100, 101, 102, 103, 104, 105, 106] (by decide +kernel) (by decide +kernel)
set_option maxRecDepth 20000 in
theorem gX7_fewest_X7_fewestOf : GoodIn wsX7_fewest (wsV RX7 218 RX7 yX7_fewestOf wsX7_fewestOf) := goodIn_app (goodIn_of _ (by decide +kernel)) ggX7_fewest_X7_fewestOf
theorem dX7_fewest_0 : decode cX7_fewest 0 = .ok (.iload_n 1, 1) := by decide +kernel
theorem dX7_fewest_1 : decode cX7_fewest 1 = .ok (.iconst 0, 1) := by decide +kernel
theorem dX7_fewest_2 : decode cX7_fewest 2 = .ok (.iconst 1, 1) := by decide +kernel
theorem dX7_fewest_3 : decode cX7_fewest 3 = .ok (.invokestatic 99, 3) := by decide +kernel
theorem dX7_fewest_6 : decode cX7_fewest 6 = .ok (.ifCond .ne 10, 3) := by decide +kernel
theorem dX7_fewest_9 : decode cX7_fewest 9 = .ok (.aload_n 0, 1) := by decide +kernel
theorem dX7_fewest_10 : decode cX7_fewest 10 = .ok (.bipush (-2), 2) := by decide +kernel
theorem dX7_fewest_12 : decode cX7_fewest 12 = .ok (.invokevirtual 89, 3) := by decide +kernel
theorem dX7_fewest_15 : decode cX7_fewest 15 = .ok (.ireturn, 1) := by decide +kernel
theorem dX7_fewest_16 : decode cX7_fewest 16 = .ok (.aload_n 0, 1) := by decide +kernel
theorem dX7_fewest_17 : decode cX7_fewest 17 = .ok (.invokevirtual 218, 3) := by decide +kernel
theorem dX7_fewest_20 : decode cX7_fewest 20 = .ok (.istore_n 2, 1) := by decide +kernel
theorem dX7_fewest_21 : decode cX7_fewest 21 = .ok (.iload_n 1, 1) := by decide +kernel
theorem dX7_fewest_22 : decode cX7_fewest 22 = .ok (.ifCond .ne 7, 3) := by decide +kernel
theorem dX7_fewest_25 : decode cX7_fewest 25 = .ok (.iload_n 2, 1) := by decide +kernel
theorem dX7_fewest_26 : decode cX7_fewest 26 = .ok (.goto 7, 3) := by decide +kernel
theorem dX7_fewest_29 : decode cX7_fewest 29 = .ok (.aload_n 0, 1) := by decide +kernel
theorem dX7_fewest_30 : decode cX7_fewest 30 = .ok (.getfield 202, 3) := by decide +kernel
theorem dX7_fewest_33 : decode cX7_fewest 33 = .ok (.ireturn, 1) := by decide +kernel
set_option maxRecDepth 20000 in
theorem ggX7_mayBehindOne_X7_passesAll : GoodIn wsX7_mayBehindOne wsX7_passesAll := goodIn_r _ [6, 7, 8, 9, 10, 11, 12, 1, 13, 14, 15, 16, 5, 17, 18, 19, 20, 21, 22, 69, 70, 71, 72, 73, 74, 75, 76, 77, 78, 79, 80, 81, 82, 83, 84, 85, 86, 87, 88, 89, 90, 91, 92, 93, 94, 95, 96, 97, 98, 99, 100, 101] (by decide +kernel) (by decide +kernel)
set_option maxRecDepth 20000 in
theorem gX7_mayBehindOne_X7_passesAll : GoodIn wsX7_mayBehindOne (wsV RX7 124 RX7 yX7_passesAll wsX7_passesAll) := goodIn_app (goodIn_of _ (by decide +kernel)) ggX7_mayBehindOne_X7_passesAll
set_option maxRecDepth 20000 in
theorem ggX7_mayBehindOne_X7_mayDance : GoodIn wsX7_mayBehindOne wsX7_mayDance := goodIn_r _ [26, 13, 27, 28, 29, 5, 30, 12, 31, 32, 33, 34, 9, 10, 35, 36, 37, 38, 1, 39, 40, 41, 42, 11, 43, 44, 45, 69, 70, 71, 72, 73, 74, 75, 76, 77, 78, 79, 80, 81, 82, 83, 84, 85, 86, 87, 88, 89, 90, 91, 92, 93, 94, 95, 96, 97, 98, 99, 100, 101] (by decide +kernel) (by decide +kernel)
set_option maxRecDepth 20000 in
theorem gX7_mayBehindOne_X7_mayDance : GoodIn wsX7_mayBehindOne (wsV RX7 171 RX7 yX7_mayDance wsX7_mayDance) := goodIn_app (goodIn_of _ (by decide +kernel)) ggX7_mayBehindOne_X7_mayDance
set_option maxRecDepth 20000 in
theorem ggX7_mayBehindOne_X7_canBy : GoodIn wsX7_mayBehindOne wsX7_canBy := goodIn_r _ [49, 31, 32, 33, 5, 34, 9, 10, 50, 51, 52, 53, 1, 35, 36, 37, 38, 13, 39, 40, 41, 42, 11, 12, 27, 28, 29, 30, 43, 44, 45, 69, 70, 71, 72, 73, 74, 75, 76, 77, 78, 79, 80, 81, 82, 83, 84, 85, 86, 87, 88, 89, 90, 91, 92, 93, 94, 95, 96, 97, 98, 99, 100, 101] (by decide +kernel) (by decide +kernel)
set_option maxRecDepth 20000 in
theorem gX7_mayBehindOne_X7_canBy : GoodIn wsX7_mayBehindOne (wsV RX7 174 RX7 yX7_canBy wsX7_canBy) := goodIn_app (goodIn_of _ (by decide +kernel)) ggX7_mayBehindOne_X7_canBy
set_option maxRecDepth 20000 in
theorem ggX7_mayBehindOne_X7_dances : GoodIn wsX7_mayBehindOne wsX7_dances := goodIn_r _ [57, 11, 13, 35, 36, 37, 5, 38, 1, 39, 40, 41, 42, 10, 9, 12, 27, 28, 29, 30, 43, 44, 45, 58, 59, 60, 61, 62, 63, 64, 69, 70, 71, 72, 73, 74, 75, 76, 77, 78, 79, 80, 81, 82, 83, 84, 85, 86, 87, 88, 89, 90, 91, 92, 93, 94, 95, 96, 97, 98, 99, 100, 101] (by decide +kernel) (by decide +kernel)
set_option maxRecDepth 20000 in
theorem gX7_mayBehindOne_X7_dances : GoodIn wsX7_mayBehindOne (wsV RX7 167 RX7 yX7_dances wsX7_dances) := goodIn_app (goodIn_of _ (by decide +kernel)) ggX7_mayBehindOne_X7_dances
set_option maxRecDepth 20000 in
theorem ggX7_mayBehindOne_X7_mayBehindOne2 : GoodIn wsX7_mayBehindOne wsX7_mayBehindOne2 := goodIn_r _ [68, 1, 2, 3, 4, 5, 6, 7, 8, 9, 10, 11, 12, 13, 14, 15, 16, 17, 18, 19, 20, 21, 22, 23, 24, 25, 26, 27, 28, 29, 30, 31, 32, 33, 34, 35, 36, 37, 38, 39, 40, 41, 42, 43, 44, 45, 46, 47, 48, 49, 50, 51, 52, 53, 54, 55, 56, 57, 58, 59, 60, 61, 62, 63, 64, 69, 70, 71, 72, 73, 74, 75, 76, 77, 78, 79, 80, 81, 82, 83, 84, 85, 86, 87, 88, 89, 90, 91, 92, 93, 94, 95, 96, 97, 98, 99, 100, 101] (by decide +kernel) (by decide +kernel)
set_option maxRecDepth 20000 in
theorem gX7_mayBehindOne_X7_mayBehindOne2 : GoodIn wsX7_mayBehindOne (wsV RX7 221 RX7 yX7_mayBehindOne2 wsX7_mayBehindOne2) := goodIn_app (goodIn_of _ (by decide +kernel)) ggX7_mayBehindOne_X7_mayBehindOne2
theorem dX7_mayBehindOne_0 : decode cX7_mayBehindOne 0 = .ok (.aload_n 0, 1) := by decide +kernel
theorem dX7_mayBehindOne_1 : decode cX7_mayBehindOne 1 = .ok (.iload_n 3, 1) := by decide +kernel
theorem dX7_mayBehindOne_2 : decode cX7_mayBehindOne 2 = .ok (.iconst 1, 1) := by decide +kernel
theorem dX7_mayBehindOne_3 : decode cX7_mayBehindOne 3 = .ok (.invokevirtual 124, 3) := by decide +kernel
theorem dX7_mayBehindOne_6 : decode cX7_mayBehindOne 6 = .ok (.iconst 0, 1) := by decide +kernel
theorem dX7_mayBehindOne_7 : decode cX7_mayBehindOne 7 = .ok (.istore 5, 2) := by decide +kernel
theorem dX7_mayBehindOne_9 : decode cX7_mayBehindOne 9 = .ok (.iload 5, 2) := by decide +kernel
theorem dX7_mayBehindOne_11 : decode cX7_mayBehindOne 11 = .ok (.bipush 64, 2) := by decide +kernel
theorem dX7_mayBehindOne_13 : decode cX7_mayBehindOne 13 = .ok (.if_icmp .ge 130, 3) := by decide +kernel
theorem dX7_mayBehindOne_16 : decode cX7_mayBehindOne 16 = .ok (.iload 5, 2) := by decide +kernel
theorem dX7_mayBehindOne_18 : decode cX7_mayBehindOne 18 = .ok (.bipush 8, 2) := by decide +kernel
theorem dX7_mayBehindOne_20 : decode cX7_mayBehindOne 20 = .ok (.idiv, 1) := by decide +kernel
theorem dX7_mayBehindOne_21 : decode cX7_mayBehindOne 21 = .ok (.istore 6, 2) := by decide +kernel
theorem dX7_mayBehindOne_23 : decode cX7_mayBehindOne 23 = .ok (.iload 5, 2) := by decide +kernel
theorem dX7_mayBehindOne_25 : decode cX7_mayBehindOne 25 = .ok (.bipush 8, 2) := by decide +kernel
theorem dX7_mayBehindOne_27 : decode cX7_mayBehindOne 27 = .ok (.irem, 1) := by decide +kernel
theorem dX7_mayBehindOne_28 : decode cX7_mayBehindOne 28 = .ok (.istore 7, 2) := by decide +kernel
theorem dX7_mayBehindOne_30 : decode cX7_mayBehindOne 30 = .ok (.iload 6, 2) := by decide +kernel
theorem dX7_mayBehindOne_32 : decode cX7_mayBehindOne 32 = .ok (.iload 7, 2) := by decide +kernel
theorem dX7_mayBehindOne_34 : decode cX7_mayBehindOne 34 = .ok (.if_icmp .ge 103, 3) := by decide +kernel
theorem dX7_mayBehindOne_37 : decode cX7_mayBehindOne 37 = .ok (.iload 7, 2) := by decide +kernel
theorem dX7_mayBehindOne_39 : decode cX7_mayBehindOne 39 = .ok (.aload_n 0, 1) := by decide +kernel
theorem dX7_mayBehindOne_40 : decode cX7_mayBehindOne 40 = .ok (.getfield 70, 3) := by decide +kernel
theorem dX7_mayBehindOne_43 : decode cX7_mayBehindOne 43 = .ok (.if_icmp .ge 94, 3) := by decide +kernel
theorem dX7_mayBehindOne_46 : decode cX7_mayBehindOne 46 = .ok (.aload_n 0, 1) := by decide +kernel
theorem dX7_mayBehindOne_47 : decode cX7_mayBehindOne 47 = .ok (.iload 6, 2) := by decide +kernel
theorem dX7_mayBehindOne_49 : decode cX7_mayBehindOne 49 = .ok (.iload 7, 2) := by decide +kernel
theorem dX7_mayBehindOne_51 : decode cX7_mayBehindOne 51 = .ok (.invokevirtual 171, 3) := by decide +kernel
theorem dX7_mayBehindOne_54 : decode cX7_mayBehindOne 54 = .ok (.ifCond .ne 6, 3) := by decide +kernel
theorem dX7_mayBehindOne_57 : decode cX7_mayBehindOne 57 = .ok (.goto 80, 3) := by decide +kernel
theorem dX7_mayBehindOne_60 : decode cX7_mayBehindOne 60 = .ok (.iconst 0, 1) := by decide +kernel
theorem dX7_mayBehindOne_61 : decode cX7_mayBehindOne 61 = .ok (.istore 8, 2) := by decide +kernel
theorem dX7_mayBehindOne_63 : decode cX7_mayBehindOne 63 = .ok (.iload 8, 2) := by decide +kernel
theorem dX7_mayBehindOne_65 : decode cX7_mayBehindOne 65 = .ok (.bipush 9, 2) := by decide +kernel
theorem dX7_mayBehindOne_67 : decode cX7_mayBehindOne 67 = .ok (.if_icmp .gt 70, 3) := by decide +kernel
theorem dX7_mayBehindOne_70 : decode cX7_mayBehindOne 70 = .ok (.aload_n 0, 1) := by decide +kernel
theorem dX7_mayBehindOne_71 : decode cX7_mayBehindOne 71 = .ok (.iload 6, 2) := by decide +kernel
theorem dX7_mayBehindOne_73 : decode cX7_mayBehindOne 73 = .ok (.iload 7, 2) := by decide +kernel
theorem dX7_mayBehindOne_75 : decode cX7_mayBehindOne 75 = .ok (.iload 8, 2) := by decide +kernel
theorem dX7_mayBehindOne_77 : decode cX7_mayBehindOne 77 = .ok (.invokevirtual 174, 3) := by decide +kernel
theorem dX7_mayBehindOne_80 : decode cX7_mayBehindOne 80 = .ok (.ifCond .ne 6, 3) := by decide +kernel
theorem dX7_mayBehindOne_83 : decode cX7_mayBehindOne 83 = .ok (.goto 48, 3) := by decide +kernel
theorem dX7_mayBehindOne_86 : decode cX7_mayBehindOne 86 = .ok (.aload_n 0, 1) := by decide +kernel
theorem dX7_mayBehindOne_87 : decode cX7_mayBehindOne 87 = .ok (.iload 6, 2) := by decide +kernel
theorem dX7_mayBehindOne_89 : decode cX7_mayBehindOne 89 = .ok (.iload 7, 2) := by decide +kernel
theorem dX7_mayBehindOne_91 : decode cX7_mayBehindOne 91 = .ok (.iload 8, 2) := by decide +kernel
theorem dX7_mayBehindOne_93 : decode cX7_mayBehindOne 93 = .ok (.invokevirtual 167, 3) := by decide +kernel
theorem dX7_mayBehindOne_96 : decode cX7_mayBehindOne 96 = .ok (.iload 4, 2) := by decide +kernel
theorem dX7_mayBehindOne_98 : decode cX7_mayBehindOne 98 = .ok (.ifCond .eq 12, 3) := by decide +kernel
theorem dX7_mayBehindOne_101 : decode cX7_mayBehindOne 101 = .ok (.aload_n 0, 1) := by decide +kernel
theorem dX7_mayBehindOne_102 : decode cX7_mayBehindOne 102 = .ok (.iload_n 1, 1) := by decide +kernel
theorem dX7_mayBehindOne_103 : decode cX7_mayBehindOne 103 = .ok (.iload_n 2, 1) := by decide +kernel
theorem dX7_mayBehindOne_104 : decode cX7_mayBehindOne 104 = .ok (.invokevirtual 221, 3) := by decide +kernel
theorem dX7_mayBehindOne_107 : decode cX7_mayBehindOne 107 = .ok (.goto 9, 3) := by decide +kernel
theorem dX7_mayBehindOne_110 : decode cX7_mayBehindOne 110 = .ok (.aload_n 0, 1) := by decide +kernel
theorem dX7_mayBehindOne_111 : decode cX7_mayBehindOne 111 = .ok (.iload_n 1, 1) := by decide +kernel
theorem dX7_mayBehindOne_112 : decode cX7_mayBehindOne 112 = .ok (.iload_n 2, 1) := by decide +kernel
theorem dX7_mayBehindOne_113 : decode cX7_mayBehindOne 113 = .ok (.invokevirtual 171, 3) := by decide +kernel
theorem dX7_mayBehindOne_116 : decode cX7_mayBehindOne 116 = .ok (.istore 9, 2) := by decide +kernel
theorem dX7_mayBehindOne_118 : decode cX7_mayBehindOne 118 = .ok (.aload_n 0, 1) := by decide +kernel
theorem dX7_mayBehindOne_119 : decode cX7_mayBehindOne 119 = .ok (.iload_n 3, 1) := by decide +kernel
theorem dX7_mayBehindOne_120 : decode cX7_mayBehindOne 120 = .ok (.iconst 0, 1) := by decide +kernel
theorem dX7_mayBehindOne_121 : decode cX7_mayBehindOne 121 = .ok (.invokevirtual 124, 3) := by decide +kernel
theorem dX7_mayBehindOne_124 : decode cX7_mayBehindOne 124 = .ok (.iload 9, 2) := by decide +kernel
theorem dX7_mayBehindOne_126 : decode cX7_mayBehindOne 126 = .ok (.ifCond .eq 5, 3) := by decide +kernel
theorem dX7_mayBehindOne_129 : decode cX7_mayBehindOne 129 = .ok (.iconst 1, 1) := by decide +kernel
theorem dX7_mayBehindOne_130 : decode cX7_mayBehindOne 130 = .ok (.ireturn, 1) := by decide +kernel
theorem dX7_mayBehindOne_131 : decode cX7_mayBehindOne 131 = .ok (.iinc 8 1, 3) := by decide +kernel
theorem dX7_mayBehindOne_134 : decode cX7_mayBehindOne 134 = .ok (.goto (-71), 3) := by decide +kernel
theorem dX7_mayBehindOne_137 : decode cX7_mayBehindOne 137 = .ok (.iinc 5 1, 3) := by decide +kernel
theorem dX7_mayBehindOne_140 : decode cX7_mayBehindOne 140 = .ok (.goto (-131), 3) := by decide +kernel
theorem dX7_mayBehindOne_143 : decode cX7_mayBehindOne 143 = .ok (.iconst 0, 1) := by decide +kernel
theorem dX7_mayBehindOne_144 : decode cX7_mayBehindOne 144 = .ok (.ireturn, 1) := by decide +kernel
set_option maxRecDepth 20000 in
theorem ggX7_mayBehindOne2_X7_passesAll : GoodIn wsX7_mayBehindOne2 wsX7_passesAll := goodIn_r _ [6, 7, 8, 9, 10, 11, 12, 1, 13, 14, 15, 16, 5, 17, 18, 19, 20, 21, 22, 65, 66, 67, 68, 69, 70, 71, 72, 73, 74, 75, 76, 77, 78, 79, 80, 81, 82, 83, 84, 85, 86, 87, 88, 89, 90, 91, 92, 93, 94, 95, 96, 97] (by decide +kernel) (by decide +kernel)
set_option maxRecDepth 20000 in
theorem gX7_mayBehindOne2_X7_passesAll : GoodIn wsX7_mayBehindOne2 (wsV RX7 124 RX7 yX7_passesAll wsX7_passesAll) := goodIn_app (goodIn_of _ (by decide +kernel)) ggX7_mayBehindOne2_X7_passesAll
set_option maxRecDepth 20000 in
theorem ggX7_mayBehindOne2_X7_mayDance : GoodIn wsX7_mayBehindOne2 wsX7_mayDance := goodIn_r _ [26, 13, 27, 28, 29, 5, 30, 12, 31, 32, 33, 34, 9, 10, 35, 36, 37, 38, 1, 39, 40, 41, 42, 11, 43, 44, 45, 65, 66, 67, 68, 69, 70, 71, 72, 73, 74, 75, 76, 77, 78, 79, 80, 81, 82, 83, 84, 85, 86, 87, 88, 89, 90, 91, 92, 93, 94, 95, 96, 97] (by decide +kernel) (by decide +kernel)
set_option maxRecDepth 20000 in
theorem gX7_mayBehindOne2_X7_mayDance : GoodIn wsX7_mayBehindOne2 (wsV RX7 171 RX7 yX7_mayDance wsX7_mayDance) := goodIn_app (goodIn_of _ (by decide +kernel)) ggX7_mayBehindOne2_X7_mayDance
set_option maxRecDepth 20000 in
theorem ggX7_mayBehindOne2_X7_canBy : GoodIn wsX7_mayBehindOne2 wsX7_canBy := goodIn_r _ [49, 31, 32, 33, 5, 34, 9, 10, 50, 51, 52, 53, 1, 35, 36, 37, 38, 13, 39, 40, 41, 42, 11, 12, 27, 28, 29, 30, 43, 44, 45, 65, 66, 67, 68, 69, 70, 71, 72, 73, 74, 75, 76, 77, 78, 79, 80, 81, 82, 83, 84, 85, 86, 87, 88, 89, 90, 91, 92, 93, 94, 95, 96, 97] (by decide +kernel) (by decide +kernel)
set_option maxRecDepth 20000 in
theorem gX7_mayBehindOne2_X7_canBy : GoodIn wsX7_mayBehindOne2 (wsV RX7 174 RX7 yX7_canBy wsX7_canBy) := goodIn_app (goodIn_of _ (by decide +kernel)) ggX7_mayBehindOne2_X7_canBy
set_option maxRecDepth 20000 in
theorem ggX7_mayBehindOne2_X7_dances : GoodIn wsX7_mayBehindOne2 wsX7_dances := goodIn_r _ [57, 11, 13, 35, 36, 37, 5, 38, 1, 39, 40, 41, 42, 10, 9, 12, 27, 28, 29, 30, 43, 44, 45, 58, 59, 60, 61, 62, 63, 64, 65, 66, 67, 68, 69, 70, 71, 72, 73, 74, 75, 76, 77, 78, 79, 80, 81, 82, 83, 84, 85, 86, 87, 88, 89, 90, 91, 92, 93, 94, 95, 96, 97] (by decide +kernel) (by decide +kernel)
set_option maxRecDepth 20000 in
theorem gX7_mayBehindOne2_X7_dances : GoodIn wsX7_mayBehindOne2 (wsV RX7 167 RX7 yX7_dances wsX7_dances) := goodIn_app (goodIn_of _ (by decide +kernel)) ggX7_mayBehindOne2_X7_dances
theorem dX7_mayBehindOne2_0 : decode cX7_mayBehindOne2 0 = .ok (.aload_n 0, 1) := by decide +kernel
theorem dX7_mayBehindOne2_1 : decode cX7_mayBehindOne2 1 = .ok (.iconst 3, 1) := by decide +kernel
theorem dX7_mayBehindOne2_2 : decode cX7_mayBehindOne2 2 = .ok (.iconst 1, 1) := by decide +kernel
theorem dX7_mayBehindOne2_3 : decode cX7_mayBehindOne2 3 = .ok (.invokevirtual 124, 3) := by decide +kernel
theorem dX7_mayBehindOne2_6 : decode cX7_mayBehindOne2 6 = .ok (.iconst 0, 1) := by decide +kernel
theorem dX7_mayBehindOne2_7 : decode cX7_mayBehindOne2 7 = .ok (.istore_n 3, 1) := by decide +kernel
theorem dX7_mayBehindOne2_8 : decode cX7_mayBehindOne2 8 = .ok (.iload_n 3, 1) := by decide +kernel
theorem dX7_mayBehindOne2_9 : decode cX7_mayBehindOne2 9 = .ok (.bipush 64, 2) := by decide +kernel
theorem dX7_mayBehindOne2_11 : decode cX7_mayBehindOne2 11 = .ok (.if_icmp .ge 114, 3) := by decide +kernel
theorem dX7_mayBehindOne2_14 : decode cX7_mayBehindOne2 14 = .ok (.iload_n 3, 1) := by decide +kernel
theorem dX7_mayBehindOne2_15 : decode cX7_mayBehindOne2 15 = .ok (.bipush 8, 2) := by decide +kernel
theorem dX7_mayBehindOne2_17 : decode cX7_mayBehindOne2 17 = .ok (.idiv, 1) := by decide +kernel
theorem dX7_mayBehindOne2_18 : decode cX7_mayBehindOne2 18 = .ok (.istore 4, 2) := by decide +kernel
theorem dX7_mayBehindOne2_20 : decode cX7_mayBehindOne2 20 = .ok (.iload_n 3, 1) := by decide +kernel
theorem dX7_mayBehindOne2_21 : decode cX7_mayBehindOne2 21 = .ok (.bipush 8, 2) := by decide +kernel
theorem dX7_mayBehindOne2_23 : decode cX7_mayBehindOne2 23 = .ok (.irem, 1) := by decide +kernel
theorem dX7_mayBehindOne2_24 : decode cX7_mayBehindOne2 24 = .ok (.istore 5, 2) := by decide +kernel
theorem dX7_mayBehindOne2_26 : decode cX7_mayBehindOne2 26 = .ok (.iload 4, 2) := by decide +kernel
theorem dX7_mayBehindOne2_28 : decode cX7_mayBehindOne2 28 = .ok (.iload 5, 2) := by decide +kernel
theorem dX7_mayBehindOne2_30 : decode cX7_mayBehindOne2 30 = .ok (.if_icmp .ge 89, 3) := by decide +kernel
theorem dX7_mayBehindOne2_33 : decode cX7_mayBehindOne2 33 = .ok (.iload 5, 2) := by decide +kernel
theorem dX7_mayBehindOne2_35 : decode cX7_mayBehindOne2 35 = .ok (.aload_n 0, 1) := by decide +kernel
theorem dX7_mayBehindOne2_36 : decode cX7_mayBehindOne2 36 = .ok (.getfield 70, 3) := by decide +kernel
theorem dX7_mayBehindOne2_39 : decode cX7_mayBehindOne2 39 = .ok (.if_icmp .ge 80, 3) := by decide +kernel
theorem dX7_mayBehindOne2_42 : decode cX7_mayBehindOne2 42 = .ok (.aload_n 0, 1) := by decide +kernel
theorem dX7_mayBehindOne2_43 : decode cX7_mayBehindOne2 43 = .ok (.iload 4, 2) := by decide +kernel
theorem dX7_mayBehindOne2_45 : decode cX7_mayBehindOne2 45 = .ok (.iload 5, 2) := by decide +kernel
theorem dX7_mayBehindOne2_47 : decode cX7_mayBehindOne2 47 = .ok (.invokevirtual 171, 3) := by decide +kernel
theorem dX7_mayBehindOne2_50 : decode cX7_mayBehindOne2 50 = .ok (.ifCond .ne 6, 3) := by decide +kernel
theorem dX7_mayBehindOne2_53 : decode cX7_mayBehindOne2 53 = .ok (.goto 66, 3) := by decide +kernel
theorem dX7_mayBehindOne2_56 : decode cX7_mayBehindOne2 56 = .ok (.iconst 0, 1) := by decide +kernel
theorem dX7_mayBehindOne2_57 : decode cX7_mayBehindOne2 57 = .ok (.istore 6, 2) := by decide +kernel
theorem dX7_mayBehindOne2_59 : decode cX7_mayBehindOne2 59 = .ok (.iload 6, 2) := by decide +kernel
theorem dX7_mayBehindOne2_61 : decode cX7_mayBehindOne2 61 = .ok (.bipush 9, 2) := by decide +kernel
theorem dX7_mayBehindOne2_63 : decode cX7_mayBehindOne2 63 = .ok (.if_icmp .gt 56, 3) := by decide +kernel
theorem dX7_mayBehindOne2_66 : decode cX7_mayBehindOne2 66 = .ok (.aload_n 0, 1) := by decide +kernel
theorem dX7_mayBehindOne2_67 : decode cX7_mayBehindOne2 67 = .ok (.iload 4, 2) := by decide +kernel
theorem dX7_mayBehindOne2_69 : decode cX7_mayBehindOne2 69 = .ok (.iload 5, 2) := by decide +kernel
theorem dX7_mayBehindOne2_71 : decode cX7_mayBehindOne2 71 = .ok (.iload 6, 2) := by decide +kernel
theorem dX7_mayBehindOne2_73 : decode cX7_mayBehindOne2 73 = .ok (.invokevirtual 174, 3) := by decide +kernel
theorem dX7_mayBehindOne2_76 : decode cX7_mayBehindOne2 76 = .ok (.ifCond .ne 6, 3) := by decide +kernel
theorem dX7_mayBehindOne2_79 : decode cX7_mayBehindOne2 79 = .ok (.goto 34, 3) := by decide +kernel
theorem dX7_mayBehindOne2_82 : decode cX7_mayBehindOne2 82 = .ok (.aload_n 0, 1) := by decide +kernel
theorem dX7_mayBehindOne2_83 : decode cX7_mayBehindOne2 83 = .ok (.iload 4, 2) := by decide +kernel
theorem dX7_mayBehindOne2_85 : decode cX7_mayBehindOne2 85 = .ok (.iload 5, 2) := by decide +kernel
theorem dX7_mayBehindOne2_87 : decode cX7_mayBehindOne2 87 = .ok (.iload 6, 2) := by decide +kernel
theorem dX7_mayBehindOne2_89 : decode cX7_mayBehindOne2 89 = .ok (.invokevirtual 167, 3) := by decide +kernel
theorem dX7_mayBehindOne2_92 : decode cX7_mayBehindOne2 92 = .ok (.aload_n 0, 1) := by decide +kernel
theorem dX7_mayBehindOne2_93 : decode cX7_mayBehindOne2 93 = .ok (.iload_n 1, 1) := by decide +kernel
theorem dX7_mayBehindOne2_94 : decode cX7_mayBehindOne2 94 = .ok (.iload_n 2, 1) := by decide +kernel
theorem dX7_mayBehindOne2_95 : decode cX7_mayBehindOne2 95 = .ok (.invokevirtual 171, 3) := by decide +kernel
theorem dX7_mayBehindOne2_98 : decode cX7_mayBehindOne2 98 = .ok (.istore 7, 2) := by decide +kernel
theorem dX7_mayBehindOne2_100 : decode cX7_mayBehindOne2 100 = .ok (.aload_n 0, 1) := by decide +kernel
theorem dX7_mayBehindOne2_101 : decode cX7_mayBehindOne2 101 = .ok (.iconst 3, 1) := by decide +kernel
theorem dX7_mayBehindOne2_102 : decode cX7_mayBehindOne2 102 = .ok (.iconst 0, 1) := by decide +kernel
theorem dX7_mayBehindOne2_103 : decode cX7_mayBehindOne2 103 = .ok (.invokevirtual 124, 3) := by decide +kernel
theorem dX7_mayBehindOne2_106 : decode cX7_mayBehindOne2 106 = .ok (.iload 7, 2) := by decide +kernel
theorem dX7_mayBehindOne2_108 : decode cX7_mayBehindOne2 108 = .ok (.ifCond .eq 5, 3) := by decide +kernel
theorem dX7_mayBehindOne2_111 : decode cX7_mayBehindOne2 111 = .ok (.iconst 1, 1) := by decide +kernel
theorem dX7_mayBehindOne2_112 : decode cX7_mayBehindOne2 112 = .ok (.ireturn, 1) := by decide +kernel
theorem dX7_mayBehindOne2_113 : decode cX7_mayBehindOne2 113 = .ok (.iinc 6 1, 3) := by decide +kernel
theorem dX7_mayBehindOne2_116 : decode cX7_mayBehindOne2 116 = .ok (.goto (-57), 3) := by decide +kernel
theorem dX7_mayBehindOne2_119 : decode cX7_mayBehindOne2 119 = .ok (.iinc 3 1, 3) := by decide +kernel
theorem dX7_mayBehindOne2_122 : decode cX7_mayBehindOne2 122 = .ok (.goto (-114), 3) := by decide +kernel
theorem dX7_mayBehindOne2_125 : decode cX7_mayBehindOne2 125 = .ok (.iconst 0, 1) := by decide +kernel
theorem dX7_mayBehindOne2_126 : decode cX7_mayBehindOne2 126 = .ok (.ireturn, 1) := by decide +kernel
set_option maxRecDepth 20000 in
theorem ggX7_wanted_X7_areTwo : GoodIn wsX7_wanted wsX7_areTwo := goodIn_r _ [5, 6, 7, 8, 4, 9, 10, 82, 83, 84, 85, 86, 87, 88, 89, 90, 91, 92, 93, 94, 95, 96, 97, 98, 99, 100, 101, 102, 103, 104, 105, 106, 107, 108, 109, 110, 111, 112, 113, 114] (by decide +kernel) (by decide +kernel)
set_option maxRecDepth 20000 in
theorem gX7_wanted_X7_areTwo : GoodIn wsX7_wanted (wsV RX7 112 RX7 yX7_areTwo wsX7_areTwo) := goodIn_app (goodIn_of _ (by decide +kernel)) ggX7_wanted_X7_areTwo
set_option maxRecDepth 20000 in
theorem ggX7_wanted_X7_no : GoodIn wsX7_wanted wsX7_no := goodIn_r _ [14, 15, 82, 83, 84, 85, 86, 87, 88, 89, 90, 91, 92, 93, 94, 95, 96, 97, 98, 99, 100, 101, 102, 103, 104, 105, 106, 107, 108, 109, 110, 111, 112, 113, 114] (by decide +kernel) (by decide +kernel)
set_option maxRecDepth 20000 in
theorem gX7_wanted_X7_no : GoodIn wsX7_wanted (wsV RX7 89 RX7 yX7_no wsX7_no) := goodIn_app (goodIn_of _ (by decide +kernel)) ggX7_wanted_X7_no
set_option maxRecDepth 20000 in
theorem ggX7_wanted_X7_haveDanced : GoodIn wsX7_wanted wsX7_haveDanced := goodIn_r _ [19, 20, 82, 83, 84, 85, 86, 87, 88, 89, 90, 91, 92, 93, 94, 95, 96, 97, 98, 99, 100, 101, 102, 103, 104, 105, 106, 107, 108, 109, 110, 111, 112, 113, 114] (by decide +kernel) (by decide +kernel)
set_option maxRecDepth 20000 in
theorem gX7_wanted_X7_haveDanced : GoodIn wsX7_wanted (wsV RX7 151 RX7 yX7_haveDanced wsX7_haveDanced) := goodIn_app (goodIn_of _ (by decide +kernel)) ggX7_wanted_X7_haveDanced
set_option maxRecDepth 20000 in
theorem ggX7_wanted_X7_mayDance : GoodIn wsX7_wanted wsX7_mayDance := goodIn_r _ [24, 25, 16, 17, 18, 4, 19, 20, 26, 27, 28, 29, 30, 31, 32, 33, 34, 35, 10, 36, 37, 38, 39, 40, 41, 42, 43, 82, 83, 84, 85, 86, 87, 88, 89, 90, 91, 92, 93, 94, 95, 96, 97, 98, 99, 100, 101, 102, 103, 104, 105, 106, 107, 108, 109, 110, 111, 112, 113, 114] (by decide +kernel) (by decide +kernel)
set_option maxRecDepth 20000 in
theorem gX7_wanted_X7_mayDance : GoodIn wsX7_wanted (wsV RX7 171 RX7 yX7_mayDance wsX7_mayDance) := goodIn_app (goodIn_of _ (by decide +kernel)) ggX7_wanted_X7_mayDance
set_option maxRecDepth 20000 in
theorem ggX7_wanted_X7_mayBehindOne : GoodIn wsX7_wanted wsX7_mayBehindOne := goodIn_r _ [47, 10, 48, 49, 50, 4, 51, 52, 53, 30, 31, 40, 20, 25, 54, 55, 56, 57, 58, 59, 60, 61, 62, 21, 22, 23, 24, 16, 17, 18, 19, 26, 27, 28, 29, 32, 33, 34, 35, 36, 37, 38, 39, 41, 42, 43, 63, 64, 65, 66, 6, 7, 8, 9, 67, 68, 69, 70, 71, 72, 73, 74, 75, 76, 77, 78, 79, 80, 81, 82, 83, 84, 85, 86, 87, 88, 89, 90, 91, 92, 93, 94, 95, 96, 97, 98, 99, 100, 101, 102, 103, 104, 105, 106, 107, 108, 109, 110, 111, 112, 113, 114] (by decide +kernel) (by decide +kernel)
set_option maxRecDepth 20000 in
theorem gX7_wanted_X7_mayBehindOne : GoodIn wsX7_wanted (wsV RX7 224 RX7 yX7_mayBehindOne wsX7_mayBehindOne) := goodIn_app (goodIn_of _ (by decide +kernel)) ggX7_wanted_X7_mayBehindOne
theorem dX7_wanted_0 : decode cX7_wanted 0 = .ok (.aload_n 0, 1) := by decide +kernel
theorem dX7_wanted_1 : decode cX7_wanted 1 = .ok (.iload_n 1, 1) := by decide +kernel
theorem dX7_wanted_2 : decode cX7_wanted 2 = .ok (.iload_n 2, 1) := by decide +kernel
theorem dX7_wanted_3 : decode cX7_wanted 3 = .ok (.invokevirtual 112, 3) := by decide +kernel
theorem dX7_wanted_6 : decode cX7_wanted 6 = .ok (.ifCond .ne 9, 3) := by decide +kernel
theorem dX7_wanted_9 : decode cX7_wanted 9 = .ok (.aload_n 0, 1) := by decide +kernel
theorem dX7_wanted_10 : decode cX7_wanted 10 = .ok (.iconst (-1), 1) := by decide +kernel
theorem dX7_wanted_11 : decode cX7_wanted 11 = .ok (.invokevirtual 89, 3) := by decide +kernel
theorem dX7_wanted_14 : decode cX7_wanted 14 = .ok (.ireturn, 1) := by decide +kernel
theorem dX7_wanted_15 : decode cX7_wanted 15 = .ok (.aload_n 0, 1) := by decide +kernel
theorem dX7_wanted_16 : decode cX7_wanted 16 = .ok (.iload_n 1, 1) := by decide +kernel
theorem dX7_wanted_17 : decode cX7_wanted 17 = .ok (.iload_n 2, 1) := by decide +kernel
theorem dX7_wanted_18 : decode cX7_wanted 18 = .ok (.invokevirtual 151, 3) := by decide +kernel
theorem dX7_wanted_21 : decode cX7_wanted 21 = .ok (.ifCond .eq 5, 3) := by decide +kernel
theorem dX7_wanted_24 : decode cX7_wanted 24 = .ok (.iconst 0, 1) := by decide +kernel
theorem dX7_wanted_25 : decode cX7_wanted 25 = .ok (.ireturn, 1) := by decide +kernel
theorem dX7_wanted_26 : decode cX7_wanted 26 = .ok (.aload_n 0, 1) := by decide +kernel
theorem dX7_wanted_27 : decode cX7_wanted 27 = .ok (.iload_n 1, 1) := by decide +kernel
theorem dX7_wanted_28 : decode cX7_wanted 28 = .ok (.iload_n 2, 1) := by decide +kernel
theorem dX7_wanted_29 : decode cX7_wanted 29 = .ok (.invokevirtual 171, 3) := by decide +kernel
theorem dX7_wanted_32 : decode cX7_wanted 32 = .ok (.ifCond .eq 5, 3) := by decide +kernel
theorem dX7_wanted_35 : decode cX7_wanted 35 = .ok (.iconst 1, 1) := by decide +kernel
theorem dX7_wanted_36 : decode cX7_wanted 36 = .ok (.ireturn, 1) := by decide +kernel
theorem dX7_wanted_37 : decode cX7_wanted 37 = .ok (.aload_n 0, 1) := by decide +kernel
theorem dX7_wanted_38 : decode cX7_wanted 38 = .ok (.iload_n 1, 1) := by decide +kernel
theorem dX7_wanted_39 : decode cX7_wanted 39 = .ok (.iload_n 2, 1) := by decide +kernel
theorem dX7_wanted_40 : decode cX7_wanted 40 = .ok (.iconst 2, 1) := by decide +kernel
theorem dX7_wanted_41 : decode cX7_wanted 41 = .ok (.iconst 0, 1) := by decide +kernel
theorem dX7_wanted_42 : decode cX7_wanted 42 = .ok (.invokevirtual 224, 3) := by decide +kernel
theorem dX7_wanted_45 : decode cX7_wanted 45 = .ok (.ifCond .eq 5, 3) := by decide +kernel
theorem dX7_wanted_48 : decode cX7_wanted 48 = .ok (.iconst 2, 1) := by decide +kernel
theorem dX7_wanted_49 : decode cX7_wanted 49 = .ok (.ireturn, 1) := by decide +kernel
theorem dX7_wanted_50 : decode cX7_wanted 50 = .ok (.aload_n 0, 1) := by decide +kernel
theorem dX7_wanted_51 : decode cX7_wanted 51 = .ok (.iload_n 1, 1) := by decide +kernel
theorem dX7_wanted_52 : decode cX7_wanted 52 = .ok (.iload_n 2, 1) := by decide +kernel
theorem dX7_wanted_53 : decode cX7_wanted 53 = .ok (.iconst 2, 1) := by decide +kernel
theorem dX7_wanted_54 : decode cX7_wanted 54 = .ok (.iconst 1, 1) := by decide +kernel
theorem dX7_wanted_55 : decode cX7_wanted 55 = .ok (.invokevirtual 224, 3) := by decide +kernel
theorem dX7_wanted_58 : decode cX7_wanted 58 = .ok (.ifCond .eq 7, 3) := by decide +kernel
theorem dX7_wanted_61 : decode cX7_wanted 61 = .ok (.iconst 3, 1) := by decide +kernel
theorem dX7_wanted_62 : decode cX7_wanted 62 = .ok (.goto 5, 3) := by decide +kernel
theorem dX7_wanted_65 : decode cX7_wanted 65 = .ok (.bipush (-9), 2) := by decide +kernel
theorem dX7_wanted_67 : decode cX7_wanted 67 = .ok (.ireturn, 1) := by decide +kernel
set_option maxRecDepth 20000 in
theorem ggX7_isNever_X7_closes : GoodIn wsX7_isNever wsX7_closes := goodIn_r _ [7, 8, 2, 9, 10, 11, 12, 13, 14, 6, 15, 16, 17, 18, 19, 20, 21, 22, 23, 24, 25, 26, 27, 28, 29, 30, 31, 32, 33, 34, 35, 36, 37, 38, 39, 40, 41, 42, 43, 44, 45, 46, 47, 48, 49, 50, 51, 52, 53, 54, 55, 56, 57, 58, 59, 60, 61, 62, 63, 64, 65, 66] (by decide +kernel) (by decide +kernel)
set_option maxRecDepth 20000 in
theorem gX7_isNever_X7_closes : GoodIn wsX7_isNever (wsV RX7 187 RX7 yX7_closes wsX7_closes) := goodIn_app (goodIn_of _ (by decide +kernel)) ggX7_isNever_X7_closes
theorem dX7_isNever_0 : decode cX7_isNever 0 = .ok (.aload_n 0, 1) := by decide +kernel
theorem dX7_isNever_1 : decode cX7_isNever 1 = .ok (.aload_n 0, 1) := by decide +kernel
theorem dX7_isNever_2 : decode cX7_isNever 2 = .ok (.getfield 109, 3) := by decide +kernel
theorem dX7_isNever_5 : decode cX7_isNever 5 = .ok (.bipush (-9), 2) := by decide +kernel
theorem dX7_isNever_7 : decode cX7_isNever 7 = .ok (.invokevirtual 187, 3) := by decide +kernel
theorem dX7_isNever_10 : decode cX7_isNever 10 = .ok (.pop, 1) := by decide +kernel
theorem dX7_isNever_11 : decode cX7_isNever 11 = .ok (.aload_n 0, 1) := by decide +kernel
theorem dX7_isNever_12 : decode cX7_isNever 12 = .ok (.getfield 43, 3) := by decide +kernel
theorem dX7_isNever_15 : decode cX7_isNever 15 = .ok (.iload_n 1, 1) := by decide +kernel
theorem dX7_isNever_16 : decode cX7_isNever 16 = .ok (.iaload, 1) := by decide +kernel
theorem dX7_isNever_17 : decode cX7_isNever 17 = .ok (.iload_n 2, 1) := by decide +kernel
theorem dX7_isNever_18 : decode cX7_isNever 18 = .ok (.ishr, 1) := by decide +kernel
theorem dX7_isNever_19 : decode cX7_isNever 19 = .ok (.iconst 1, 1) := by decide +kernel
theorem dX7_isNever_20 : decode cX7_isNever 20 = .ok (.iand, 1) := by decide +kernel
theorem dX7_isNever_21 : decode cX7_isNever 21 = .ok (.ifCond .ne 7, 3) := by decide +kernel
theorem dX7_isNever_24 : decode cX7_isNever 24 = .ok (.iconst 1, 1) := by decide +kernel
theorem dX7_isNever_25 : decode cX7_isNever 25 = .ok (.goto 4, 3) := by decide +kernel
theorem dX7_isNever_28 : decode cX7_isNever 28 = .ok (.iconst 0, 1) := by decide +kernel
theorem dX7_isNever_29 : decode cX7_isNever 29 = .ok (.ireturn, 1) := by decide +kernel
set_option maxRecDepth 20000 in
theorem ggX7_off_X7_areTwo : GoodIn wsX7_off wsX7_areTwo := goodIn_r _ [8, 9, 10, 11, 7, 12, 13, 66, 67, 68, 69, 70, 71, 72, 73, 74, 75, 76, 77, 78, 79, 80, 81, 82, 83, 84, 85, 86, 87, 88, 89, 90, 91, 92, 93, 94, 95, 96, 97, 98] (by decide +kernel) (by decide +kernel)
set_option maxRecDepth 20000 in
theorem gX7_off_X7_areTwo : GoodIn wsX7_off (wsV RX7 112 RX7 yX7_areTwo wsX7_areTwo) := goodIn_app (goodIn_of _ (by decide +kernel)) ggX7_off_X7_areTwo
set_option maxRecDepth 20000 in
theorem ggX7_off_X7_no : GoodIn wsX7_off wsX7_no := goodIn_r _ [17, 18, 66, 67, 68, 69, 70, 71, 72, 73, 74, 75, 76, 77, 78, 79, 80, 81, 82, 83, 84, 85, 86, 87, 88, 89, 90, 91, 92, 93, 94, 95, 96, 97, 98] (by decide +kernel) (by decide +kernel)
set_option maxRecDepth 20000 in
theorem gX7_off_X7_no : GoodIn wsX7_off (wsV RX7 89 RX7 yX7_no wsX7_no) := goodIn_app (goodIn_of _ (by decide +kernel)) ggX7_off_X7_no
set_option maxRecDepth 20000 in
theorem ggX7_off_X7_isNever : GoodIn wsX7_off wsX7_isNever := goodIn_r _ [22, 23, 24, 25, 26, 27, 7, 28, 13, 29, 30, 31, 32, 33, 34, 35, 36, 37, 38, 39, 40, 41, 42, 43, 44, 45, 46, 47, 48, 49, 50, 51, 52, 53, 66, 67, 68, 69, 70, 71, 72, 73, 74, 75, 76, 77, 78, 79, 80, 81, 82, 83, 84, 85, 86, 87, 88, 89, 90, 91, 92, 93, 94, 95, 96, 97, 98] (by decide +kernel) (by decide +kernel)
set_option maxRecDepth 20000 in
theorem gX7_off_X7_isNever : GoodIn wsX7_off (wsV RX7 228 RX7 yX7_isNever wsX7_isNever) := goodIn_app (goodIn_of _ (by decide +kernel)) ggX7_off_X7_isNever
set_option maxRecDepth 20000 in
theorem ggX7_off_X7_findPairs : GoodIn wsX7_off wsX7_findPairs := goodIn_r _ [57, 1, 13, 2, 3, 32, 33, 34, 7, 35, 29, 66, 67, 68, 69, 70, 71, 72, 73, 74, 75, 76, 77, 78, 79, 80, 81, 82, 83, 84, 85, 86, 87, 88, 89, 90, 91, 92, 93, 94, 95, 96, 97, 98] (by decide +kernel) (by decide +kernel)
set_option maxRecDepth 20000 in
theorem gX7_off_X7_findPairs : GoodIn wsX7_off (wsV RX7 208 RX7 yX7_findPairs wsX7_findPairs) := goodIn_app (goodIn_of _ (by decide +kernel)) ggX7_off_X7_findPairs
set_option maxRecDepth 20000 in
theorem ggX7_off_X7_parts : GoodIn wsX7_off wsX7_parts := goodIn_r _ [61, 29, 66, 67, 68, 69, 70, 71, 72, 73, 74, 75, 76, 77, 78, 79, 80, 81, 82, 83, 84, 85, 86, 87, 88, 89, 90, 91, 92, 93, 94, 95, 96, 97, 98] (by decide +kernel) (by decide +kernel)
set_option maxRecDepth 20000 in
theorem gX7_off_X7_parts : GoodIn wsX7_off (wsV RX7 193 RX7 yX7_parts wsX7_parts) := goodIn_app (goodIn_of _ (by decide +kernel)) ggX7_off_X7_parts
set_option maxRecDepth 20000 in
theorem ggX7_off_X7_joins : GoodIn wsX7_off wsX7_joins := goodIn_r _ [65, 29, 66, 67, 68, 69, 70, 71, 72, 73, 74, 75, 76, 77, 78, 79, 80, 81, 82, 83, 84, 85, 86, 87, 88, 89, 90, 91, 92, 93, 94, 95, 96, 97, 98] (by decide +kernel) (by decide +kernel)
set_option maxRecDepth 20000 in
theorem gX7_off_X7_joins : GoodIn wsX7_off (wsV RX7 116 RX7 yX7_joins wsX7_joins) := goodIn_app (goodIn_of _ (by decide +kernel)) ggX7_off_X7_joins
theorem dX7_off_0 : decode cX7_off 0 = .ok (.aload_n 0, 1) := by decide +kernel
theorem dX7_off_1 : decode cX7_off 1 = .ok (.iload_n 1, 1) := by decide +kernel
theorem dX7_off_2 : decode cX7_off 2 = .ok (.iload_n 2, 1) := by decide +kernel
theorem dX7_off_3 : decode cX7_off 3 = .ok (.invokevirtual 112, 3) := by decide +kernel
theorem dX7_off_6 : decode cX7_off 6 = .ok (.ifCond .ne 9, 3) := by decide +kernel
theorem dX7_off_9 : decode cX7_off 9 = .ok (.aload_n 0, 1) := by decide +kernel
theorem dX7_off_10 : decode cX7_off 10 = .ok (.iconst (-1), 1) := by decide +kernel
theorem dX7_off_11 : decode cX7_off 11 = .ok (.invokevirtual 89, 3) := by decide +kernel
theorem dX7_off_14 : decode cX7_off 14 = .ok (.ireturn, 1) := by decide +kernel
theorem dX7_off_15 : decode cX7_off 15 = .ok (.aload_n 0, 1) := by decide +kernel
theorem dX7_off_16 : decode cX7_off 16 = .ok (.iload_n 1, 1) := by decide +kernel
theorem dX7_off_17 : decode cX7_off 17 = .ok (.iload_n 2, 1) := by decide +kernel
theorem dX7_off_18 : decode cX7_off 18 = .ok (.invokevirtual 228, 3) := by decide +kernel
theorem dX7_off_21 : decode cX7_off 21 = .ok (.ifCond .eq 5, 3) := by decide +kernel
theorem dX7_off_24 : decode cX7_off 24 = .ok (.iconst 0, 1) := by decide +kernel
theorem dX7_off_25 : decode cX7_off 25 = .ok (.ireturn, 1) := by decide +kernel
theorem dX7_off_26 : decode cX7_off 26 = .ok (.aload_n 0, 1) := by decide +kernel
theorem dX7_off_27 : decode cX7_off 27 = .ok (.iconst 1, 1) := by decide +kernel
theorem dX7_off_28 : decode cX7_off 28 = .ok (.invokevirtual 208, 3) := by decide +kernel
theorem dX7_off_31 : decode cX7_off 31 = .ok (.bipush (-9), 2) := by decide +kernel
theorem dX7_off_33 : decode cX7_off 33 = .ok (.istore_n 3, 1) := by decide +kernel
theorem dX7_off_34 : decode cX7_off 34 = .ok (.iconst 0, 1) := by decide +kernel
theorem dX7_off_35 : decode cX7_off 35 = .ok (.istore 4, 2) := by decide +kernel
theorem dX7_off_37 : decode cX7_off 37 = .ok (.iload 4, 2) := by decide +kernel
theorem dX7_off_39 : decode cX7_off 39 = .ok (.aload_n 0, 1) := by decide +kernel
theorem dX7_off_40 : decode cX7_off 40 = .ok (.getfield 199, 3) := by decide +kernel
theorem dX7_off_43 : decode cX7_off 43 = .ok (.if_icmp .ge 133, 3) := by decide +kernel
theorem dX7_off_46 : decode cX7_off 46 = .ok (.iload_n 3, 1) := by decide +kernel
theorem dX7_off_47 : decode cX7_off 47 = .ok (.iconst 1, 1) := by decide +kernel
theorem dX7_off_48 : decode cX7_off 48 = .ok (.if_icmp .eq 128, 3) := by decide +kernel
theorem dX7_off_51 : decode cX7_off 51 = .ok (.aload_n 0, 1) := by decide +kernel
theorem dX7_off_52 : decode cX7_off 52 = .ok (.aload_n 0, 1) := by decide +kernel
theorem dX7_off_53 : decode cX7_off 53 = .ok (.getfield 52, 3) := by decide +kernel
theorem dX7_off_56 : decode cX7_off 56 = .ok (.iload 4, 2) := by decide +kernel
theorem dX7_off_58 : decode cX7_off 58 = .ok (.iaload, 1) := by decide +kernel
theorem dX7_off_59 : decode cX7_off 59 = .ok (.aload_n 0, 1) := by decide +kernel
theorem dX7_off_60 : decode cX7_off 60 = .ok (.getfield 55, 3) := by decide +kernel
theorem dX7_off_63 : decode cX7_off 63 = .ok (.iload 4, 2) := by decide +kernel
theorem dX7_off_65 : decode cX7_off 65 = .ok (.iaload, 1) := by decide +kernel
theorem dX7_off_66 : decode cX7_off 66 = .ok (.invokevirtual 193, 3) := by decide +kernel
theorem dX7_off_69 : decode cX7_off 69 = .ok (.aload_n 0, 1) := by decide +kernel
theorem dX7_off_70 : decode cX7_off 70 = .ok (.iload_n 1, 1) := by decide +kernel
theorem dX7_off_71 : decode cX7_off 71 = .ok (.iload_n 2, 1) := by decide +kernel
theorem dX7_off_72 : decode cX7_off 72 = .ok (.invokevirtual 228, 3) := by decide +kernel
theorem dX7_off_75 : decode cX7_off 75 = .ok (.ifCond .eq 5, 3) := by decide +kernel
theorem dX7_off_78 : decode cX7_off 78 = .ok (.iconst 1, 1) := by decide +kernel
theorem dX7_off_79 : decode cX7_off 79 = .ok (.istore_n 3, 1) := by decide +kernel
theorem dX7_off_80 : decode cX7_off 80 = .ok (.iload 4, 2) := by decide +kernel
theorem dX7_off_82 : decode cX7_off 82 = .ok (.iconst 1, 1) := by decide +kernel
theorem dX7_off_83 : decode cX7_off 83 = .ok (.iadd, 1) := by decide +kernel
theorem dX7_off_84 : decode cX7_off 84 = .ok (.istore 5, 2) := by decide +kernel
theorem dX7_off_86 : decode cX7_off 86 = .ok (.iload 5, 2) := by decide +kernel
theorem dX7_off_88 : decode cX7_off 88 = .ok (.aload_n 0, 1) := by decide +kernel
theorem dX7_off_89 : decode cX7_off 89 = .ok (.getfield 199, 3) := by decide +kernel
theorem dX7_off_92 : decode cX7_off 92 = .ok (.if_icmp .ge 60, 3) := by decide +kernel
theorem dX7_off_95 : decode cX7_off 95 = .ok (.iload_n 3, 1) := by decide +kernel
theorem dX7_off_96 : decode cX7_off 96 = .ok (.ifCond .ge 56, 3) := by decide +kernel
theorem dX7_off_99 : decode cX7_off 99 = .ok (.aload_n 0, 1) := by decide +kernel
theorem dX7_off_100 : decode cX7_off 100 = .ok (.aload_n 0, 1) := by decide +kernel
theorem dX7_off_101 : decode cX7_off 101 = .ok (.getfield 52, 3) := by decide +kernel
theorem dX7_off_104 : decode cX7_off 104 = .ok (.iload 5, 2) := by decide +kernel
theorem dX7_off_106 : decode cX7_off 106 = .ok (.iaload, 1) := by decide +kernel
theorem dX7_off_107 : decode cX7_off 107 = .ok (.aload_n 0, 1) := by decide +kernel
theorem dX7_off_108 : decode cX7_off 108 = .ok (.getfield 55, 3) := by decide +kernel
theorem dX7_off_111 : decode cX7_off 111 = .ok (.iload 5, 2) := by decide +kernel
theorem dX7_off_113 : decode cX7_off 113 = .ok (.iaload, 1) := by decide +kernel
theorem dX7_off_114 : decode cX7_off 114 = .ok (.invokevirtual 193, 3) := by decide +kernel
theorem dX7_off_117 : decode cX7_off 117 = .ok (.aload_n 0, 1) := by decide +kernel
theorem dX7_off_118 : decode cX7_off 118 = .ok (.iload_n 1, 1) := by decide +kernel
theorem dX7_off_119 : decode cX7_off 119 = .ok (.iload_n 2, 1) := by decide +kernel
theorem dX7_off_120 : decode cX7_off 120 = .ok (.invokevirtual 228, 3) := by decide +kernel
theorem dX7_off_123 : decode cX7_off 123 = .ok (.ifCond .eq 5, 3) := by decide +kernel
theorem dX7_off_126 : decode cX7_off 126 = .ok (.iconst 2, 1) := by decide +kernel
theorem dX7_off_127 : decode cX7_off 127 = .ok (.istore_n 3, 1) := by decide +kernel
theorem dX7_off_128 : decode cX7_off 128 = .ok (.aload_n 0, 1) := by decide +kernel
theorem dX7_off_129 : decode cX7_off 129 = .ok (.aload_n 0, 1) := by decide +kernel
theorem dX7_off_130 : decode cX7_off 130 = .ok (.getfield 52, 3) := by decide +kernel
theorem dX7_off_133 : decode cX7_off 133 = .ok (.iload 5, 2) := by decide +kernel
theorem dX7_off_135 : decode cX7_off 135 = .ok (.iaload, 1) := by decide +kernel
theorem dX7_off_136 : decode cX7_off 136 = .ok (.aload_n 0, 1) := by decide +kernel
theorem dX7_off_137 : decode cX7_off 137 = .ok (.getfield 55, 3) := by decide +kernel
theorem dX7_off_140 : decode cX7_off 140 = .ok (.iload 5, 2) := by decide +kernel
theorem dX7_off_142 : decode cX7_off 142 = .ok (.iaload, 1) := by decide +kernel
theorem dX7_off_143 : decode cX7_off 143 = .ok (.invokevirtual 116, 3) := by decide +kernel
theorem dX7_off_146 : decode cX7_off 146 = .ok (.iinc 5 1, 3) := by decide +kernel
theorem dX7_off_149 : decode cX7_off 149 = .ok (.goto (-63), 3) := by decide +kernel
theorem dX7_off_152 : decode cX7_off 152 = .ok (.aload_n 0, 1) := by decide +kernel
theorem dX7_off_153 : decode cX7_off 153 = .ok (.aload_n 0, 1) := by decide +kernel
theorem dX7_off_154 : decode cX7_off 154 = .ok (.getfield 52, 3) := by decide +kernel
theorem dX7_off_157 : decode cX7_off 157 = .ok (.iload 4, 2) := by decide +kernel
theorem dX7_off_159 : decode cX7_off 159 = .ok (.iaload, 1) := by decide +kernel
theorem dX7_off_160 : decode cX7_off 160 = .ok (.aload_n 0, 1) := by decide +kernel
theorem dX7_off_161 : decode cX7_off 161 = .ok (.getfield 55, 3) := by decide +kernel
theorem dX7_off_164 : decode cX7_off 164 = .ok (.iload 4, 2) := by decide +kernel
theorem dX7_off_166 : decode cX7_off 166 = .ok (.iaload, 1) := by decide +kernel
theorem dX7_off_167 : decode cX7_off 167 = .ok (.invokevirtual 116, 3) := by decide +kernel
theorem dX7_off_170 : decode cX7_off 170 = .ok (.iinc 4 1, 3) := by decide +kernel
theorem dX7_off_173 : decode cX7_off 173 = .ok (.goto (-136), 3) := by decide +kernel
theorem dX7_off_176 : decode cX7_off 176 = .ok (.iload_n 3, 1) := by decide +kernel
theorem dX7_off_177 : decode cX7_off 177 = .ok (.ireturn, 1) := by decide +kernel
set_option maxRecDepth 20000 in
theorem ggX7_worth_X7_isDancer : GoodIn wsX7_worth wsX7_isDancer := goodIn_r _ [6, 7, 43, 44, 45, 46, 47, 48, 49, 50, 51, 52, 53, 54, 55, 56, 57, 58, 59, 60, 61, 62, 63, 64, 65, 66, 67, 68, 69, 70, 71, 72, 73, 74, 75] (by decide +kernel) (by decide +kernel)
set_option maxRecDepth 20000 in
theorem gX7_worth_X7_isDancer : GoodIn wsX7_worth (wsV RX7 74 RX7 yX7_isDancer wsX7_isDancer) := goodIn_app (goodIn_of _ (by decide +kernel)) ggX7_worth_X7_isDancer
set_option maxRecDepth 20000 in
theorem ggX7_worth_X7_no : GoodIn wsX7_worth wsX7_no := goodIn_r _ [11, 12, 43, 44, 45, 46, 47, 48, 49, 50, 51, 52, 53, 54, 55, 56, 57, 58, 59, 60, 61, 62, 63, 64, 65, 66, 67, 68, 69, 70, 71, 72, 73, 74, 75] (by decide +kernel) (by decide +kernel)
set_option maxRecDepth 20000 in
theorem gX7_worth_X7_no : GoodIn wsX7_worth (wsV RX7 89 RX7 yX7_no wsX7_no) := goodIn_app (goodIn_of _ (by decide +kernel)) ggX7_worth_X7_no
set_option maxRecDepth 20000 in
theorem ggX7_worth_X7_closes : GoodIn wsX7_worth wsX7_closes := goodIn_r _ [16, 7, 17, 18, 19, 20, 21, 22, 23, 5, 24, 25, 26, 27, 28, 29, 30, 31, 32, 33, 34, 35, 36, 37, 38, 39, 40, 41, 42, 43, 44, 45, 46, 47, 48, 49, 50, 51, 52, 53, 54, 55, 56, 57, 58, 59, 60, 61, 62, 63, 64, 65, 66, 67, 68, 69, 70, 71, 72, 73, 74, 75] (by decide +kernel) (by decide +kernel)
set_option maxRecDepth 20000 in
theorem gX7_worth_X7_closes : GoodIn wsX7_worth (wsV RX7 187 RX7 yX7_closes wsX7_closes) := goodIn_app (goodIn_of _ (by decide +kernel)) ggX7_worth_X7_closes
theorem dX7_worth_0 : decode cX7_worth 0 = .ok (.aload_n 0, 1) := by decide +kernel
theorem dX7_worth_1 : decode cX7_worth 1 = .ok (.iload_n 1, 1) := by decide +kernel
theorem dX7_worth_2 : decode cX7_worth 2 = .ok (.invokevirtual 74, 3) := by decide +kernel
theorem dX7_worth_5 : decode cX7_worth 5 = .ok (.ifCond .ne 9, 3) := by decide +kernel
theorem dX7_worth_8 : decode cX7_worth 8 = .ok (.aload_n 0, 1) := by decide +kernel
theorem dX7_worth_9 : decode cX7_worth 9 = .ok (.iconst (-1), 1) := by decide +kernel
theorem dX7_worth_10 : decode cX7_worth 10 = .ok (.invokevirtual 89, 3) := by decide +kernel
theorem dX7_worth_13 : decode cX7_worth 13 = .ok (.ireturn, 1) := by decide +kernel
theorem dX7_worth_14 : decode cX7_worth 14 = .ok (.aload_n 0, 1) := by decide +kernel
theorem dX7_worth_15 : decode cX7_worth 15 = .ok (.aload_n 0, 1) := by decide +kernel
theorem dX7_worth_16 : decode cX7_worth 16 = .ok (.getfield 109, 3) := by decide +kernel
theorem dX7_worth_19 : decode cX7_worth 19 = .ok (.bipush (-9), 2) := by decide +kernel
theorem dX7_worth_21 : decode cX7_worth 21 = .ok (.invokevirtual 187, 3) := by decide +kernel
theorem dX7_worth_24 : decode cX7_worth 24 = .ok (.istore_n 2, 1) := by decide +kernel
theorem dX7_worth_25 : decode cX7_worth 25 = .ok (.iload_n 2, 1) := by decide +kernel
theorem dX7_worth_26 : decode cX7_worth 26 = .ok (.aload_n 0, 1) := by decide +kernel
theorem dX7_worth_27 : decode cX7_worth 27 = .ok (.aload_n 0, 1) := by decide +kernel
theorem dX7_worth_28 : decode cX7_worth 28 = .ok (.getfield 109, 3) := by decide +kernel
theorem dX7_worth_31 : decode cX7_worth 31 = .ok (.iload_n 1, 1) := by decide +kernel
theorem dX7_worth_32 : decode cX7_worth 32 = .ok (.invokevirtual 187, 3) := by decide +kernel
theorem dX7_worth_35 : decode cX7_worth 35 = .ok (.isub, 1) := by decide +kernel
theorem dX7_worth_36 : decode cX7_worth 36 = .ok (.ireturn, 1) := by decide +kernel
set_option maxRecDepth 20000 in
theorem ggX7_byLaw_X7_isIn : GoodIn wsX7_byLaw wsX7_isIn := goodIn_r _ [4] (by decide +kernel) (by decide +kernel)
set_option maxRecDepth 20000 in
theorem gX7_byLaw_X7_isIn : GoodIn wsX7_byLaw (va_wsS RX7 99 yX7_isIn wsX7_isIn) := goodIn_app (goodIn_of _ (by decide +kernel)) ggX7_byLaw_X7_isIn
set_option maxRecDepth 20000 in
theorem ggX7_byLaw_X7_closes : GoodIn wsX7_byLaw wsX7_closes := goodIn_r _ [8, 9, 10, 11, 12, 13, 14, 15, 16, 3, 17, 18, 19, 20, 21, 22, 23, 24, 25, 26, 27, 28, 29, 30, 31, 32, 33, 34, 35, 41, 42, 43, 44, 45, 46, 47, 48, 49, 50, 51, 52, 53, 54, 55, 56, 57, 58, 59, 60, 61, 62, 63, 64, 65, 66, 67, 68, 69, 70, 71, 72, 73] (by decide +kernel) (by decide +kernel)
set_option maxRecDepth 20000 in
theorem gX7_byLaw_X7_closes : GoodIn wsX7_byLaw (wsV RX7 187 RX7 yX7_closes wsX7_closes) := goodIn_app (goodIn_of _ (by decide +kernel)) ggX7_byLaw_X7_closes
set_option maxRecDepth 20000 in
theorem ggX7_byLaw_X7_no : GoodIn wsX7_byLaw wsX7_no := goodIn_r _ [39, 40, 41, 42, 43, 44, 45, 46, 47, 48, 49, 50, 51, 52, 53, 54, 55, 56, 57, 58, 59, 60, 61, 62, 63, 64, 65, 66, 67, 68, 69, 70, 71, 72, 73] (by decide +kernel) (by decide +kernel)
set_option maxRecDepth 20000 in
theorem gX7_byLaw_X7_no : GoodIn wsX7_byLaw (wsV RX7 89 RX7 yX7_no wsX7_no) := goodIn_app (goodIn_of _ (by decide +kernel)) ggX7_byLaw_X7_no
theorem dX7_byLaw_0 : decode cX7_byLaw 0 = .ok (.iload_n 1, 1) := by decide +kernel
theorem dX7_byLaw_1 : decode cX7_byLaw 1 = .ok (.iconst 0, 1) := by decide +kernel
theorem dX7_byLaw_2 : decode cX7_byLaw 2 = .ok (.iconst 2, 1) := by decide +kernel
theorem dX7_byLaw_3 : decode cX7_byLaw 3 = .ok (.invokestatic 99, 3) := by decide +kernel
theorem dX7_byLaw_6 : decode cX7_byLaw 6 = .ok (.ifCond .eq 13, 3) := by decide +kernel
theorem dX7_byLaw_9 : decode cX7_byLaw 9 = .ok (.aload_n 0, 1) := by decide +kernel
theorem dX7_byLaw_10 : decode cX7_byLaw 10 = .ok (.iload_n 1, 1) := by decide +kernel
theorem dX7_byLaw_11 : decode cX7_byLaw 11 = .ok (.bipush (-9), 2) := by decide +kernel
theorem dX7_byLaw_13 : decode cX7_byLaw 13 = .ok (.invokevirtual 187, 3) := by decide +kernel
theorem dX7_byLaw_16 : decode cX7_byLaw 16 = .ok (.goto 9, 3) := by decide +kernel
theorem dX7_byLaw_19 : decode cX7_byLaw 19 = .ok (.aload_n 0, 1) := by decide +kernel
theorem dX7_byLaw_20 : decode cX7_byLaw 20 = .ok (.bipush (-2), 2) := by decide +kernel
theorem dX7_byLaw_22 : decode cX7_byLaw 22 = .ok (.invokevirtual 89, 3) := by decide +kernel
theorem dX7_byLaw_25 : decode cX7_byLaw 25 = .ok (.ireturn, 1) := by decide +kernel
set_option maxRecDepth 20000 in
theorem ggX7_row_X7_bound : GoodIn wsX7_row wsX7_bound := goodIn_r _ [6] (by decide +kernel) (by decide +kernel)
set_option maxRecDepth 20000 in
theorem gX7_row_X7_bound : GoodIn wsX7_row (va_wsS RX7 82 yX7_bound wsX7_bound) := goodIn_app (goodIn_of _ (by decide +kernel)) ggX7_row_X7_bound
set_option maxRecDepth 20000 in
theorem ggX7_row_X7_no : GoodIn wsX7_row wsX7_no := goodIn_r _ [10, 11, 12, 13, 14, 15, 16, 17, 18, 19, 20, 21, 22, 23, 24, 25, 26, 27, 28, 29, 30, 31, 32, 33, 34, 35, 36, 37, 38, 39, 40, 41, 42, 43, 44] (by decide +kernel) (by decide +kernel)
set_option maxRecDepth 20000 in
theorem gX7_row_X7_no : GoodIn wsX7_row (wsV RX7 89 RX7 yX7_no wsX7_no) := goodIn_app (goodIn_of _ (by decide +kernel)) ggX7_row_X7_no
theorem dX7_row_0 : decode cX7_row 0 = .ok (.iload_n 1, 1) := by decide +kernel
theorem dX7_row_1 : decode cX7_row 1 = .ok (.iconst 0, 1) := by decide +kernel
theorem dX7_row_2 : decode cX7_row 2 = .ok (.bipush 99, 2) := by decide +kernel
theorem dX7_row_4 : decode cX7_row 4 = .ok (.invokestatic 82, 3) := by decide +kernel
theorem dX7_row_7 : decode cX7_row 7 = .ok (.istore_n 2, 1) := by decide +kernel
theorem dX7_row_8 : decode cX7_row 8 = .ok (.iload_n 2, 1) := by decide +kernel
theorem dX7_row_9 : decode cX7_row 9 = .ok (.ifCond .ne 15, 3) := by decide +kernel
theorem dX7_row_12 : decode cX7_row 12 = .ok (.aload_n 0, 1) := by decide +kernel
theorem dX7_row_13 : decode cX7_row 13 = .ok (.getfield 231, 3) := by decide +kernel
theorem dX7_row_16 : decode cX7_row 16 = .ok (.bipush 6, 2) := by decide +kernel
theorem dX7_row_18 : decode cX7_row 18 = .ok (.if_icmp .ne 6, 3) := by decide +kernel
theorem dX7_row_21 : decode cX7_row 21 = .ok (.bipush (-6), 2) := by decide +kernel
theorem dX7_row_23 : decode cX7_row 23 = .ok (.istore_n 2, 1) := by decide +kernel
theorem dX7_row_24 : decode cX7_row 24 = .ok (.iload_n 2, 1) := by decide +kernel
theorem dX7_row_25 : decode cX7_row 25 = .ok (.ifCond .eq 9, 3) := by decide +kernel
theorem dX7_row_28 : decode cX7_row 28 = .ok (.aload_n 0, 1) := by decide +kernel
theorem dX7_row_29 : decode cX7_row 29 = .ok (.iload_n 2, 1) := by decide +kernel
theorem dX7_row_30 : decode cX7_row 30 = .ok (.invokevirtual 89, 3) := by decide +kernel
theorem dX7_row_33 : decode cX7_row 33 = .ok (.ireturn, 1) := by decide +kernel
theorem dX7_row_34 : decode cX7_row 34 = .ok (.aload_n 0, 1) := by decide +kernel
theorem dX7_row_35 : decode cX7_row 35 = .ok (.getfield 58, 3) := by decide +kernel
theorem dX7_row_38 : decode cX7_row 38 = .ok (.aload_n 0, 1) := by decide +kernel
theorem dX7_row_39 : decode cX7_row 39 = .ok (.getfield 231, 3) := by decide +kernel
theorem dX7_row_42 : decode cX7_row 42 = .ok (.iload_n 1, 1) := by decide +kernel
theorem dX7_row_43 : decode cX7_row 43 = .ok (.iastore, 1) := by decide +kernel
theorem dX7_row_44 : decode cX7_row 44 = .ok (.aload_n 0, 1) := by decide +kernel
theorem dX7_row_45 : decode cX7_row 45 = .ok (.dup, 1) := by decide +kernel
theorem dX7_row_46 : decode cX7_row 46 = .ok (.getfield 231, 3) := by decide +kernel
theorem dX7_row_49 : decode cX7_row 49 = .ok (.iconst 1, 1) := by decide +kernel
theorem dX7_row_50 : decode cX7_row 50 = .ok (.iadd, 1) := by decide +kernel
theorem dX7_row_51 : decode cX7_row 51 = .ok (.putfield 231, 3) := by decide +kernel
theorem dX7_row_54 : decode cX7_row 54 = .ok (.aload_n 0, 1) := by decide +kernel
theorem dX7_row_55 : decode cX7_row 55 = .ok (.getfield 231, 3) := by decide +kernel
theorem dX7_row_58 : decode cX7_row 58 = .ok (.ireturn, 1) := by decide +kernel
theorem dX7_clear_0 : decode cX7_clear 0 = .ok (.aload_n 0, 1) := by decide +kernel
theorem dX7_clear_1 : decode cX7_clear 1 = .ok (.getfield 231, 3) := by decide +kernel
theorem dX7_clear_4 : decode cX7_clear 4 = .ok (.istore_n 1, 1) := by decide +kernel
theorem dX7_clear_5 : decode cX7_clear 5 = .ok (.aload_n 0, 1) := by decide +kernel
theorem dX7_clear_6 : decode cX7_clear 6 = .ok (.iconst 0, 1) := by decide +kernel
theorem dX7_clear_7 : decode cX7_clear 7 = .ok (.putfield 231, 3) := by decide +kernel
theorem dX7_clear_10 : decode cX7_clear 10 = .ok (.iload_n 1, 1) := by decide +kernel
theorem dX7_clear_11 : decode cX7_clear 11 = .ok (.ireturn, 1) := by decide +kernel
set_option maxRecDepth 20000 in
theorem ggX7_judged_X7_passesAll : GoodIn wsX7_judged wsX7_passesAll := goodIn_r _ [8, 9, 10, 11, 12, 13, 14, 15, 16, 17, 18, 19, 7, 20, 21, 22, 23, 24, 25, 72, 73, 74, 75, 76, 77, 78, 79, 80, 81, 82, 83, 84, 85, 86, 87, 88, 89, 90, 91, 92, 93, 94, 95, 96, 97, 98, 99, 100, 101, 102, 103, 104] (by decide +kernel) (by decide +kernel)
set_option maxRecDepth 20000 in
theorem gX7_judged_X7_passesAll : GoodIn wsX7_judged (wsV RX7 124 RX7 yX7_passesAll wsX7_passesAll) := goodIn_app (goodIn_of _ (by decide +kernel)) ggX7_judged_X7_passesAll
set_option maxRecDepth 20000 in
theorem ggX7_judged_X7_areTwo : GoodIn wsX7_judged wsX7_areTwo := goodIn_r _ [29, 30, 31, 32, 7, 33, 15, 72, 73, 74, 75, 76, 77, 78, 79, 80, 81, 82, 83, 84, 85, 86, 87, 88, 89, 90, 91, 92, 93, 94, 95, 96, 97, 98, 99, 100, 101, 102, 103, 104] (by decide +kernel) (by decide +kernel)
set_option maxRecDepth 20000 in
theorem gX7_judged_X7_areTwo : GoodIn wsX7_judged (wsV RX7 112 RX7 yX7_areTwo wsX7_areTwo) := goodIn_app (goodIn_of _ (by decide +kernel)) ggX7_judged_X7_areTwo
set_option maxRecDepth 20000 in
theorem ggX7_judged_X7_mayDance : GoodIn wsX7_judged wsX7_mayDance := goodIn_r _ [37, 16, 38, 39, 40, 7, 41, 14, 42, 43, 44, 45, 11, 12, 46, 47, 48, 49, 15, 50, 51, 52, 53, 13, 54, 55, 56, 72, 73, 74, 75, 76, 77, 78, 79, 80, 81, 82, 83, 84, 85, 86, 87, 88, 89, 90, 91, 92, 93, 94, 95, 96, 97, 98, 99, 100, 101, 102, 103, 104] (by decide +kernel) (by decide +kernel)
set_option maxRecDepth 20000 in
theorem gX7_judged_X7_mayDance : GoodIn wsX7_judged (wsV RX7 171 RX7 yX7_mayDance wsX7_mayDance) := goodIn_app (goodIn_of _ (by decide +kernel)) ggX7_judged_X7_mayDance
set_option maxRecDepth 20000 in
theorem ggX7_judged_X7_dancesByLeast : GoodIn wsX7_judged wsX7_dancesByLeast := goodIn_r _ [60, 46, 47, 48, 7, 49, 15, 16, 50, 51, 52, 53, 13, 12, 11, 14, 38, 39, 40, 41, 54, 55, 56, 61, 62, 63, 64, 65, 66, 67, 68, 69, 70, 71, 72, 73, 74, 75, 76, 77, 78, 79, 80, 81, 82, 83, 84, 85, 86, 87, 88, 89, 90, 91, 92, 93, 94, 95, 96, 97, 98, 99, 100, 101, 102, 103, 104] (by decide +kernel) (by decide +kernel)
set_option maxRecDepth 20000 in
theorem gX7_judged_X7_dancesByLeast : GoodIn wsX7_judged (wsV RX7 234 RX7 yX7_dancesByLeast wsX7_dancesByLeast) := goodIn_app (goodIn_of _ (by decide +kernel)) ggX7_judged_X7_dancesByLeast
theorem dX7_judged_0 : decode cX7_judged 0 = .ok (.aload_n 0, 1) := by decide +kernel
theorem dX7_judged_1 : decode cX7_judged 1 = .ok (.iconst 1, 1) := by decide +kernel
theorem dX7_judged_2 : decode cX7_judged 2 = .ok (.iconst 1, 1) := by decide +kernel
theorem dX7_judged_3 : decode cX7_judged 3 = .ok (.invokevirtual 124, 3) := by decide +kernel
theorem dX7_judged_6 : decode cX7_judged 6 = .ok (.bipush (-9), 2) := by decide +kernel
theorem dX7_judged_8 : decode cX7_judged 8 = .ok (.istore_n 1, 1) := by decide +kernel
theorem dX7_judged_9 : decode cX7_judged 9 = .ok (.iconst 0, 1) := by decide +kernel
theorem dX7_judged_10 : decode cX7_judged 10 = .ok (.istore_n 2, 1) := by decide +kernel
theorem dX7_judged_11 : decode cX7_judged 11 = .ok (.iload_n 2, 1) := by decide +kernel
theorem dX7_judged_12 : decode cX7_judged 12 = .ok (.aload_n 0, 1) := by decide +kernel
theorem dX7_judged_13 : decode cX7_judged 13 = .ok (.getfield 231, 3) := by decide +kernel
theorem dX7_judged_16 : decode cX7_judged 16 = .ok (.if_icmp .ge 76, 3) := by decide +kernel
theorem dX7_judged_19 : decode cX7_judged 19 = .ok (.iload_n 1, 1) := by decide +kernel
theorem dX7_judged_20 : decode cX7_judged 20 = .ok (.ifCond .ge 72, 3) := by decide +kernel
