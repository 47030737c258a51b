theorem dX7_judged_23 : decode cX7_judged 23 = .ok (.aload_n 0, 1) := by decide +kernel
theorem dX7_judged_24 : decode cX7_judged 24 = .ok (.getfield 58, 3) := by decide +kernel
theorem dX7_judged_27 : decode cX7_judged 27 = .ok (.aload_n 0, 1) := by decide +kernel
theorem dX7_judged_28 : decode cX7_judged 28 = .ok (.getfield 61, 3) := by decide +kernel
theorem dX7_judged_31 : decode cX7_judged 31 = .ok (.iload_n 2, 1) := by decide +kernel
theorem dX7_judged_32 : decode cX7_judged 32 = .ok (.iaload, 1) := by decide +kernel
theorem dX7_judged_33 : decode cX7_judged 33 = .ok (.iaload, 1) := by decide +kernel
theorem dX7_judged_34 : decode cX7_judged 34 = .ok (.bipush 10, 2) := by decide +kernel
theorem dX7_judged_36 : decode cX7_judged 36 = .ok (.idiv, 1) := by decide +kernel
theorem dX7_judged_37 : decode cX7_judged 37 = .ok (.istore_n 3, 1) := by decide +kernel
theorem dX7_judged_38 : decode cX7_judged 38 = .ok (.aload_n 0, 1) := by decide +kernel
theorem dX7_judged_39 : decode cX7_judged 39 = .ok (.getfield 58, 3) := by decide +kernel
theorem dX7_judged_42 : decode cX7_judged 42 = .ok (.aload_n 0, 1) := by decide +kernel
theorem dX7_judged_43 : decode cX7_judged 43 = .ok (.getfield 61, 3) := by decide +kernel
theorem dX7_judged_46 : decode cX7_judged 46 = .ok (.iload_n 2, 1) := by decide +kernel
theorem dX7_judged_47 : decode cX7_judged 47 = .ok (.iaload, 1) := by decide +kernel
theorem dX7_judged_48 : decode cX7_judged 48 = .ok (.iaload, 1) := by decide +kernel
theorem dX7_judged_49 : decode cX7_judged 49 = .ok (.bipush 10, 2) := by decide +kernel
theorem dX7_judged_51 : decode cX7_judged 51 = .ok (.irem, 1) := by decide +kernel
theorem dX7_judged_52 : decode cX7_judged 52 = .ok (.istore 4, 2) := by decide +kernel
theorem dX7_judged_54 : decode cX7_judged 54 = .ok (.aload_n 0, 1) := by decide +kernel
theorem dX7_judged_55 : decode cX7_judged 55 = .ok (.iload_n 3, 1) := by decide +kernel
theorem dX7_judged_56 : decode cX7_judged 56 = .ok (.iload 4, 2) := by decide +kernel
theorem dX7_judged_58 : decode cX7_judged 58 = .ok (.invokevirtual 112, 3) := by decide +kernel
theorem dX7_judged_61 : decode cX7_judged 61 = .ok (.ifCond .eq 23, 3) := by decide +kernel
theorem dX7_judged_64 : decode cX7_judged 64 = .ok (.aload_n 0, 1) := by decide +kernel
theorem dX7_judged_65 : decode cX7_judged 65 = .ok (.iload_n 3, 1) := by decide +kernel
theorem dX7_judged_66 : decode cX7_judged 66 = .ok (.iload 4, 2) := by decide +kernel
theorem dX7_judged_68 : decode cX7_judged 68 = .ok (.invokevirtual 171, 3) := by decide +kernel
theorem dX7_judged_71 : decode cX7_judged 71 = .ok (.ifCond .eq 13, 3) := by decide +kernel
theorem dX7_judged_74 : decode cX7_judged 74 = .ok (.aload_n 0, 1) := by decide +kernel
theorem dX7_judged_75 : decode cX7_judged 75 = .ok (.iload_n 3, 1) := by decide +kernel
theorem dX7_judged_76 : decode cX7_judged 76 = .ok (.iload 4, 2) := by decide +kernel
theorem dX7_judged_78 : decode cX7_judged 78 = .ok (.invokevirtual 234, 3) := by decide +kernel
theorem dX7_judged_81 : decode cX7_judged 81 = .ok (.goto 5, 3) := by decide +kernel
theorem dX7_judged_84 : decode cX7_judged 84 = .ok (.iload_n 2, 1) := by decide +kernel
theorem dX7_judged_85 : decode cX7_judged 85 = .ok (.istore_n 1, 1) := by decide +kernel
theorem dX7_judged_86 : decode cX7_judged 86 = .ok (.iinc 2 1, 3) := by decide +kernel
theorem dX7_judged_89 : decode cX7_judged 89 = .ok (.goto (-78), 3) := by decide +kernel
theorem dX7_judged_92 : decode cX7_judged 92 = .ok (.aload_n 0, 1) := by decide +kernel
theorem dX7_judged_93 : decode cX7_judged 93 = .ok (.iconst 1, 1) := by decide +kernel
theorem dX7_judged_94 : decode cX7_judged 94 = .ok (.iconst 0, 1) := by decide +kernel
theorem dX7_judged_95 : decode cX7_judged 95 = .ok (.invokevirtual 124, 3) := by decide +kernel
theorem dX7_judged_98 : decode cX7_judged 98 = .ok (.iload_n 1, 1) := by decide +kernel
theorem dX7_judged_99 : decode cX7_judged 99 = .ok (.ireturn, 1) := by decide +kernel
set_option maxRecDepth 20000 in
theorem ggX7_judge_X7_judged : GoodIn wsX7_judge wsX7_judged := goodIn_r _ [7, 1, 8, 2, 9, 10, 11, 6, 12, 13, 14, 15, 16, 17, 18, 19, 20, 21, 22, 23, 24, 25, 26, 27, 28, 29, 30, 31, 32, 33, 34, 35, 36, 37, 38, 39, 40, 41, 42, 43, 44, 45, 46, 47, 48, 49, 50, 51, 52, 53, 54, 55, 56, 57, 58, 59, 60, 61, 62, 63, 64, 65, 66, 67, 68, 69, 70, 71, 72, 73, 74, 75, 76, 77, 78, 79, 80, 81, 82, 83, 84, 85, 86, 87, 88, 89, 90, 91, 92, 93, 94, 95, 96, 97, 98, 99, 100, 101, 102, 103, 104, 105, 106, 107, 108] (by decide +kernel) (by decide +kernel)
set_option maxRecDepth 20000 in
theorem gX7_judge_X7_judged : GoodIn wsX7_judge (wsV RX7 237 RX7 yX7_judged wsX7_judged) := goodIn_app (goodIn_of _ (by decide +kernel)) ggX7_judge_X7_judged
theorem dX7_judge_0 : decode cX7_judge 0 = .ok (.iconst 0, 1) := by decide +kernel
theorem dX7_judge_1 : decode cX7_judge 1 = .ok (.istore_n 1, 1) := by decide +kernel
theorem dX7_judge_2 : decode cX7_judge 2 = .ok (.iload_n 1, 1) := by decide +kernel
theorem dX7_judge_3 : decode cX7_judge 3 = .ok (.aload_n 0, 1) := by decide +kernel
theorem dX7_judge_4 : decode cX7_judge 4 = .ok (.getfield 231, 3) := by decide +kernel
theorem dX7_judge_7 : decode cX7_judge 7 = .ok (.if_icmp .ge 16, 3) := by decide +kernel
theorem dX7_judge_10 : decode cX7_judge 10 = .ok (.aload_n 0, 1) := by decide +kernel
theorem dX7_judge_11 : decode cX7_judge 11 = .ok (.getfield 61, 3) := by decide +kernel
theorem dX7_judge_14 : decode cX7_judge 14 = .ok (.iload_n 1, 1) := by decide +kernel
theorem dX7_judge_15 : decode cX7_judge 15 = .ok (.iload_n 1, 1) := by decide +kernel
theorem dX7_judge_16 : decode cX7_judge 16 = .ok (.iastore, 1) := by decide +kernel
theorem dX7_judge_17 : decode cX7_judge 17 = .ok (.iinc 1 1, 3) := by decide +kernel
theorem dX7_judge_20 : decode cX7_judge 20 = .ok (.goto (-18), 3) := by decide +kernel
theorem dX7_judge_23 : decode cX7_judge 23 = .ok (.aload_n 0, 1) := by decide +kernel
theorem dX7_judge_24 : decode cX7_judge 24 = .ok (.invokevirtual 237, 3) := by decide +kernel
theorem dX7_judge_27 : decode cX7_judge 27 = .ok (.ireturn, 1) := by decide +kernel
set_option maxRecDepth 20000 in
theorem ggX7_loadBy_X7_passesAll : GoodIn wsX7_loadBy wsX7_passesAll := goodIn_r _ [10, 11, 12, 13, 14, 15, 16, 17, 18, 19, 20, 21, 9, 22, 23, 24, 25, 26, 27, 74, 75, 76, 77, 78, 79, 80, 81, 82, 83, 84, 85, 86, 87, 88, 89, 90, 91, 92, 93, 94, 95, 96, 97, 98, 99, 100, 101, 102, 103, 104, 105, 106] (by decide +kernel) (by decide +kernel)
set_option maxRecDepth 20000 in
theorem gX7_loadBy_X7_passesAll : GoodIn wsX7_loadBy (wsV RX7 124 RX7 yX7_passesAll wsX7_passesAll) := goodIn_app (goodIn_of _ (by decide +kernel)) ggX7_loadBy_X7_passesAll
set_option maxRecDepth 20000 in
theorem ggX7_loadBy_X7_areTwo : GoodIn wsX7_loadBy wsX7_areTwo := goodIn_r _ [31, 32, 33, 34, 9, 35, 17, 74, 75, 76, 77, 78, 79, 80, 81, 82, 83, 84, 85, 86, 87, 88, 89, 90, 91, 92, 93, 94, 95, 96, 97, 98, 99, 100, 101, 102, 103, 104, 105, 106] (by decide +kernel) (by decide +kernel)
set_option maxRecDepth 20000 in
theorem gX7_loadBy_X7_areTwo : GoodIn wsX7_loadBy (wsV RX7 112 RX7 yX7_areTwo wsX7_areTwo) := goodIn_app (goodIn_of _ (by decide +kernel)) ggX7_loadBy_X7_areTwo
set_option maxRecDepth 20000 in
theorem ggX7_loadBy_X7_mayDance : GoodIn wsX7_loadBy wsX7_mayDance := goodIn_r _ [39, 18, 40, 41, 42, 9, 43, 16, 44, 45, 46, 47, 13, 14, 48, 49, 50, 51, 17, 52, 53, 54, 55, 15, 56, 57, 58, 74, 75, 76, 77, 78, 79, 80, 81, 82, 83, 84, 85, 86, 87, 88, 89, 90, 91, 92, 93, 94, 95, 96, 97, 98, 99, 100, 101, 102, 103, 104, 105, 106] (by decide +kernel) (by decide +kernel)
set_option maxRecDepth 20000 in
theorem gX7_loadBy_X7_mayDance : GoodIn wsX7_loadBy (wsV RX7 171 RX7 yX7_mayDance wsX7_mayDance) := goodIn_app (goodIn_of _ (by decide +kernel)) ggX7_loadBy_X7_mayDance
set_option maxRecDepth 20000 in
theorem ggX7_loadBy_X7_areCousins : GoodIn wsX7_loadBy wsX7_areCousins := goodIn_r _ [47, 13, 14, 74, 75, 76, 77, 78, 79, 80, 81, 82, 83, 84, 85, 86, 87, 88, 89, 90, 91, 92, 93, 94, 95, 96, 97, 98, 99, 100, 101, 102, 103, 104, 105, 106] (by decide +kernel) (by decide +kernel)
set_option maxRecDepth 20000 in
theorem gX7_loadBy_X7_areCousins : GoodIn wsX7_loadBy (wsV RX7 157 RX7 yX7_areCousins wsX7_areCousins) := goodIn_app (goodIn_of _ (by decide +kernel)) ggX7_loadBy_X7_areCousins
set_option maxRecDepth 20000 in
theorem ggX7_loadBy_X7_canBy : GoodIn wsX7_loadBy wsX7_canBy := goodIn_r _ [62, 44, 45, 46, 9, 47, 13, 14, 32, 33, 34, 35, 17, 48, 49, 50, 51, 18, 52, 53, 54, 55, 15, 16, 40, 41, 42, 43, 56, 57, 58, 74, 75, 76, 77, 78, 79, 80, 81, 82, 83, 84, 85, 86, 87, 88, 89, 90, 91, 92, 93, 94, 95, 96, 97, 98, 99, 100, 101, 102, 103, 104, 105, 106] (by decide +kernel) (by decide +kernel)
set_option maxRecDepth 20000 in
theorem gX7_loadBy_X7_canBy : GoodIn wsX7_loadBy (wsV RX7 174 RX7 yX7_canBy wsX7_canBy) := goodIn_app (goodIn_of _ (by decide +kernel)) ggX7_loadBy_X7_canBy
set_option maxRecDepth 20000 in
theorem ggX7_loadBy_X7_dances : GoodIn wsX7_loadBy wsX7_dances := goodIn_r _ [66, 15, 18, 48, 49, 50, 9, 51, 17, 52, 53, 54, 55, 14, 13, 16, 40, 41, 42, 43, 56, 57, 58, 67, 68, 69, 70, 71, 72, 73, 74, 75, 76, 77, 78, 79, 80, 81, 82, 83, 84, 85, 86, 87, 88, 89, 90, 91, 92, 93, 94, 95, 96, 97, 98, 99, 100, 101, 102, 103, 104, 105, 106] (by decide +kernel) (by decide +kernel)
set_option maxRecDepth 20000 in
theorem gX7_loadBy_X7_dances : GoodIn wsX7_loadBy (wsV RX7 167 RX7 yX7_dances wsX7_dances) := goodIn_app (goodIn_of _ (by decide +kernel)) ggX7_loadBy_X7_dances
theorem dX7_loadBy_0 : decode cX7_loadBy 0 = .ok (.aload_n 0, 1) := by decide +kernel
theorem dX7_loadBy_1 : decode cX7_loadBy 1 = .ok (.iconst 1, 1) := by decide +kernel
theorem dX7_loadBy_2 : decode cX7_loadBy 2 = .ok (.iconst 1, 1) := by decide +kernel
theorem dX7_loadBy_3 : decode cX7_loadBy 3 = .ok (.invokevirtual 124, 3) := by decide +kernel
theorem dX7_loadBy_6 : decode cX7_loadBy 6 = .ok (.iconst 0, 1) := by decide +kernel
theorem dX7_loadBy_7 : decode cX7_loadBy 7 = .ok (.istore_n 1, 1) := by decide +kernel
theorem dX7_loadBy_8 : decode cX7_loadBy 8 = .ok (.iload_n 1, 1) := by decide +kernel
theorem dX7_loadBy_9 : decode cX7_loadBy 9 = .ok (.bipush 8, 2) := by decide +kernel
theorem dX7_loadBy_11 : decode cX7_loadBy 11 = .ok (.if_icmp .ge 16, 3) := by decide +kernel
theorem dX7_loadBy_14 : decode cX7_loadBy 14 = .ok (.aload_n 0, 1) := by decide +kernel
theorem dX7_loadBy_15 : decode cX7_loadBy 15 = .ok (.getfield 67, 3) := by decide +kernel
theorem dX7_loadBy_18 : decode cX7_loadBy 18 = .ok (.iload_n 1, 1) := by decide +kernel
theorem dX7_loadBy_19 : decode cX7_loadBy 19 = .ok (.iconst 0, 1) := by decide +kernel
theorem dX7_loadBy_20 : decode cX7_loadBy 20 = .ok (.iastore, 1) := by decide +kernel
theorem dX7_loadBy_21 : decode cX7_loadBy 21 = .ok (.iinc 1 1, 3) := by decide +kernel
theorem dX7_loadBy_24 : decode cX7_loadBy 24 = .ok (.goto (-16), 3) := by decide +kernel
theorem dX7_loadBy_27 : decode cX7_loadBy 27 = .ok (.iconst 0, 1) := by decide +kernel
theorem dX7_loadBy_28 : decode cX7_loadBy 28 = .ok (.istore_n 1, 1) := by decide +kernel
theorem dX7_loadBy_29 : decode cX7_loadBy 29 = .ok (.aload_n 0, 1) := by decide +kernel
theorem dX7_loadBy_30 : decode cX7_loadBy 30 = .ok (.aload_n 0, 1) := by decide +kernel
theorem dX7_loadBy_31 : decode cX7_loadBy 31 = .ok (.getfield 231, 3) := by decide +kernel
theorem dX7_loadBy_34 : decode cX7_loadBy 34 = .ok (.putfield 240, 3) := by decide +kernel
theorem dX7_loadBy_37 : decode cX7_loadBy 37 = .ok (.iconst 0, 1) := by decide +kernel
theorem dX7_loadBy_38 : decode cX7_loadBy 38 = .ok (.istore_n 2, 1) := by decide +kernel
theorem dX7_loadBy_39 : decode cX7_loadBy 39 = .ok (.iload_n 2, 1) := by decide +kernel
theorem dX7_loadBy_40 : decode cX7_loadBy 40 = .ok (.aload_n 0, 1) := by decide +kernel
theorem dX7_loadBy_41 : decode cX7_loadBy 41 = .ok (.getfield 231, 3) := by decide +kernel
theorem dX7_loadBy_44 : decode cX7_loadBy 44 = .ok (.if_icmp .ge 215, 3) := by decide +kernel
theorem dX7_loadBy_47 : decode cX7_loadBy 47 = .ok (.aload_n 0, 1) := by decide +kernel
theorem dX7_loadBy_48 : decode cX7_loadBy 48 = .ok (.getfield 240, 3) := by decide +kernel
theorem dX7_loadBy_51 : decode cX7_loadBy 51 = .ok (.aload_n 0, 1) := by decide +kernel
theorem dX7_loadBy_52 : decode cX7_loadBy 52 = .ok (.getfield 231, 3) := by decide +kernel
theorem dX7_loadBy_55 : decode cX7_loadBy 55 = .ok (.if_icmp .ne 204, 3) := by decide +kernel
theorem dX7_loadBy_58 : decode cX7_loadBy 58 = .ok (.aload_n 0, 1) := by decide +kernel
theorem dX7_loadBy_59 : decode cX7_loadBy 59 = .ok (.getfield 58, 3) := by decide +kernel
theorem dX7_loadBy_62 : decode cX7_loadBy 62 = .ok (.iload_n 2, 1) := by decide +kernel
theorem dX7_loadBy_63 : decode cX7_loadBy 63 = .ok (.iaload, 1) := by decide +kernel
theorem dX7_loadBy_64 : decode cX7_loadBy 64 = .ok (.bipush 10, 2) := by decide +kernel
theorem dX7_loadBy_66 : decode cX7_loadBy 66 = .ok (.idiv, 1) := by decide +kernel
theorem dX7_loadBy_67 : decode cX7_loadBy 67 = .ok (.istore_n 3, 1) := by decide +kernel
theorem dX7_loadBy_68 : decode cX7_loadBy 68 = .ok (.aload_n 0, 1) := by decide +kernel
theorem dX7_loadBy_69 : decode cX7_loadBy 69 = .ok (.getfield 58, 3) := by decide +kernel
theorem dX7_loadBy_72 : decode cX7_loadBy 72 = .ok (.iload_n 2, 1) := by decide +kernel
theorem dX7_loadBy_73 : decode cX7_loadBy 73 = .ok (.iaload, 1) := by decide +kernel
theorem dX7_loadBy_74 : decode cX7_loadBy 74 = .ok (.bipush 10, 2) := by decide +kernel
theorem dX7_loadBy_76 : decode cX7_loadBy 76 = .ok (.irem, 1) := by decide +kernel
theorem dX7_loadBy_77 : decode cX7_loadBy 77 = .ok (.istore 4, 2) := by decide +kernel
theorem dX7_loadBy_79 : decode cX7_loadBy 79 = .ok (.aload_n 0, 1) := by decide +kernel
theorem dX7_loadBy_80 : decode cX7_loadBy 80 = .ok (.iload_n 3, 1) := by decide +kernel
theorem dX7_loadBy_81 : decode cX7_loadBy 81 = .ok (.iload 4, 2) := by decide +kernel
theorem dX7_loadBy_83 : decode cX7_loadBy 83 = .ok (.invokevirtual 112, 3) := by decide +kernel
theorem dX7_loadBy_86 : decode cX7_loadBy 86 = .ok (.ifCond .eq 17, 3) := by decide +kernel
theorem dX7_loadBy_89 : decode cX7_loadBy 89 = .ok (.aload_n 0, 1) := by decide +kernel
theorem dX7_loadBy_90 : decode cX7_loadBy 90 = .ok (.iload_n 3, 1) := by decide +kernel
theorem dX7_loadBy_91 : decode cX7_loadBy 91 = .ok (.iload 4, 2) := by decide +kernel
theorem dX7_loadBy_93 : decode cX7_loadBy 93 = .ok (.invokevirtual 171, 3) := by decide +kernel
theorem dX7_loadBy_96 : decode cX7_loadBy 96 = .ok (.ifCond .eq 7, 3) := by decide +kernel
theorem dX7_loadBy_99 : decode cX7_loadBy 99 = .ok (.iconst 1, 1) := by decide +kernel
theorem dX7_loadBy_100 : decode cX7_loadBy 100 = .ok (.goto 4, 3) := by decide +kernel
theorem dX7_loadBy_103 : decode cX7_loadBy 103 = .ok (.iconst 0, 1) := by decide +kernel
theorem dX7_loadBy_104 : decode cX7_loadBy 104 = .ok (.istore 5, 2) := by decide +kernel
theorem dX7_loadBy_106 : decode cX7_loadBy 106 = .ok (.iload 5, 2) := by decide +kernel
theorem dX7_loadBy_108 : decode cX7_loadBy 108 = .ok (.ifCond .eq 17, 3) := by decide +kernel
theorem dX7_loadBy_111 : decode cX7_loadBy 111 = .ok (.aload_n 0, 1) := by decide +kernel
theorem dX7_loadBy_112 : decode cX7_loadBy 112 = .ok (.iload_n 3, 1) := by decide +kernel
theorem dX7_loadBy_113 : decode cX7_loadBy 113 = .ok (.iload 4, 2) := by decide +kernel
theorem dX7_loadBy_115 : decode cX7_loadBy 115 = .ok (.invokevirtual 157, 3) := by decide +kernel
theorem dX7_loadBy_118 : decode cX7_loadBy 118 = .ok (.ifCond .eq 7, 3) := by decide +kernel
theorem dX7_loadBy_121 : decode cX7_loadBy 121 = .ok (.iconst 1, 1) := by decide +kernel
theorem dX7_loadBy_122 : decode cX7_loadBy 122 = .ok (.goto 4, 3) := by decide +kernel
theorem dX7_loadBy_125 : decode cX7_loadBy 125 = .ok (.iconst 0, 1) := by decide +kernel
theorem dX7_loadBy_126 : decode cX7_loadBy 126 = .ok (.istore 6, 2) := by decide +kernel
theorem dX7_loadBy_128 : decode cX7_loadBy 128 = .ok (.iload 5, 2) := by decide +kernel
theorem dX7_loadBy_130 : decode cX7_loadBy 130 = .ok (.ifCond .eq 38, 3) := by decide +kernel
theorem dX7_loadBy_133 : decode cX7_loadBy 133 = .ok (.iload 6, 2) := by decide +kernel
theorem dX7_loadBy_135 : decode cX7_loadBy 135 = .ok (.ifCond .ne 19, 3) := by decide +kernel
theorem dX7_loadBy_138 : decode cX7_loadBy 138 = .ok (.aload_n 0, 1) := by decide +kernel
theorem dX7_loadBy_139 : decode cX7_loadBy 139 = .ok (.iload_n 3, 1) := by decide +kernel
theorem dX7_loadBy_140 : decode cX7_loadBy 140 = .ok (.iload 4, 2) := by decide +kernel
theorem dX7_loadBy_142 : decode cX7_loadBy 142 = .ok (.aload_n 0, 1) := by decide +kernel
theorem dX7_loadBy_143 : decode cX7_loadBy 143 = .ok (.getfield 64, 3) := by decide +kernel
theorem dX7_loadBy_146 : decode cX7_loadBy 146 = .ok (.iload_n 2, 1) := by decide +kernel
theorem dX7_loadBy_147 : decode cX7_loadBy 147 = .ok (.iaload, 1) := by decide +kernel
theorem dX7_loadBy_148 : decode cX7_loadBy 148 = .ok (.invokevirtual 174, 3) := by decide +kernel
theorem dX7_loadBy_151 : decode cX7_loadBy 151 = .ok (.ifCond .eq 17, 3) := by decide +kernel
theorem dX7_loadBy_154 : decode cX7_loadBy 154 = .ok (.iload 6, 2) := by decide +kernel
theorem dX7_loadBy_156 : decode cX7_loadBy 156 = .ok (.ifCond .eq 20, 3) := by decide +kernel
theorem dX7_loadBy_159 : decode cX7_loadBy 159 = .ok (.aload_n 0, 1) := by decide +kernel
theorem dX7_loadBy_160 : decode cX7_loadBy 160 = .ok (.getfield 64, 3) := by decide +kernel
theorem dX7_loadBy_163 : decode cX7_loadBy 163 = .ok (.iload_n 2, 1) := by decide +kernel
theorem dX7_loadBy_164 : decode cX7_loadBy 164 = .ok (.iaload, 1) := by decide +kernel
theorem dX7_loadBy_165 : decode cX7_loadBy 165 = .ok (.ifCond .le 11, 3) := by decide +kernel
theorem dX7_loadBy_168 : decode cX7_loadBy 168 = .ok (.aload_n 0, 1) := by decide +kernel
theorem dX7_loadBy_169 : decode cX7_loadBy 169 = .ok (.iload_n 2, 1) := by decide +kernel
theorem dX7_loadBy_170 : decode cX7_loadBy 170 = .ok (.putfield 240, 3) := by decide +kernel
theorem dX7_loadBy_173 : decode cX7_loadBy 173 = .ok (.goto 80, 3) := by decide +kernel
theorem dX7_loadBy_176 : decode cX7_loadBy 176 = .ok (.aload_n 0, 1) := by decide +kernel
theorem dX7_loadBy_177 : decode cX7_loadBy 177 = .ok (.iload_n 3, 1) := by decide +kernel
theorem dX7_loadBy_178 : decode cX7_loadBy 178 = .ok (.iload 4, 2) := by decide +kernel
theorem dX7_loadBy_180 : decode cX7_loadBy 180 = .ok (.iload 6, 2) := by decide +kernel
theorem dX7_loadBy_182 : decode cX7_loadBy 182 = .ok (.ifCond .eq 8, 3) := by decide +kernel
theorem dX7_loadBy_185 : decode cX7_loadBy 185 = .ok (.bipush 9, 2) := by decide +kernel
theorem dX7_loadBy_187 : decode cX7_loadBy 187 = .ok (.goto 9, 3) := by decide +kernel
theorem dX7_loadBy_190 : decode cX7_loadBy 190 = .ok (.aload_n 0, 1) := by decide +kernel
theorem dX7_loadBy_191 : decode cX7_loadBy 191 = .ok (.getfield 64, 3) := by decide +kernel
theorem dX7_loadBy_194 : decode cX7_loadBy 194 = .ok (.iload_n 2, 1) := by decide +kernel
theorem dX7_loadBy_195 : decode cX7_loadBy 195 = .ok (.iaload, 1) := by decide +kernel
theorem dX7_loadBy_196 : decode cX7_loadBy 196 = .ok (.invokevirtual 167, 3) := by decide +kernel
theorem dX7_loadBy_199 : decode cX7_loadBy 199 = .ok (.iload 6, 2) := by decide +kernel
theorem dX7_loadBy_201 : decode cX7_loadBy 201 = .ok (.ifCond .eq 6, 3) := by decide +kernel
theorem dX7_loadBy_204 : decode cX7_loadBy 204 = .ok (.goto 49, 3) := by decide +kernel
theorem dX7_loadBy_207 : decode cX7_loadBy 207 = .ok (.aload_n 0, 1) := by decide +kernel
theorem dX7_loadBy_208 : decode cX7_loadBy 208 = .ok (.getfield 67, 3) := by decide +kernel
theorem dX7_loadBy_211 : decode cX7_loadBy 211 = .ok (.aload_n 0, 1) := by decide +kernel
theorem dX7_loadBy_212 : decode cX7_loadBy 212 = .ok (.getfield 64, 3) := by decide +kernel
theorem dX7_loadBy_215 : decode cX7_loadBy 215 = .ok (.iload_n 2, 1) := by decide +kernel
theorem dX7_loadBy_216 : decode cX7_loadBy 216 = .ok (.iaload, 1) := by decide +kernel
theorem dX7_loadBy_217 : decode cX7_loadBy 217 = .ok (.dup2, 1) := by decide +kernel
theorem dX7_loadBy_218 : decode cX7_loadBy 218 = .ok (.iaload, 1) := by decide +kernel
theorem dX7_loadBy_219 : decode cX7_loadBy 219 = .ok (.iconst 1, 1) := by decide +kernel
theorem dX7_loadBy_220 : decode cX7_loadBy 220 = .ok (.iadd, 1) := by decide +kernel
theorem dX7_loadBy_221 : decode cX7_loadBy 221 = .ok (.iastore, 1) := by decide +kernel
theorem dX7_loadBy_222 : decode cX7_loadBy 222 = .ok (.aload_n 0, 1) := by decide +kernel
theorem dX7_loadBy_223 : decode cX7_loadBy 223 = .ok (.getfield 67, 3) := by decide +kernel
theorem dX7_loadBy_226 : decode cX7_loadBy 226 = .ok (.aload_n 0, 1) := by decide +kernel
theorem dX7_loadBy_227 : decode cX7_loadBy 227 = .ok (.getfield 64, 3) := by decide +kernel
theorem dX7_loadBy_230 : decode cX7_loadBy 230 = .ok (.iload_n 2, 1) := by decide +kernel
theorem dX7_loadBy_231 : decode cX7_loadBy 231 = .ok (.iaload, 1) := by decide +kernel
theorem dX7_loadBy_232 : decode cX7_loadBy 232 = .ok (.iaload, 1) := by decide +kernel
theorem dX7_loadBy_233 : decode cX7_loadBy 233 = .ok (.iload_n 1, 1) := by decide +kernel
theorem dX7_loadBy_234 : decode cX7_loadBy 234 = .ok (.if_icmp .le 17, 3) := by decide +kernel
theorem dX7_loadBy_237 : decode cX7_loadBy 237 = .ok (.aload_n 0, 1) := by decide +kernel
theorem dX7_loadBy_238 : decode cX7_loadBy 238 = .ok (.getfield 67, 3) := by decide +kernel
theorem dX7_loadBy_241 : decode cX7_loadBy 241 = .ok (.aload_n 0, 1) := by decide +kernel
theorem dX7_loadBy_242 : decode cX7_loadBy 242 = .ok (.getfield 64, 3) := by decide +kernel
theorem dX7_loadBy_245 : decode cX7_loadBy 245 = .ok (.iload_n 2, 1) := by decide +kernel
theorem dX7_loadBy_246 : decode cX7_loadBy 246 = .ok (.iaload, 1) := by decide +kernel
theorem dX7_loadBy_247 : decode cX7_loadBy 247 = .ok (.iaload, 1) := by decide +kernel
theorem dX7_loadBy_248 : decode cX7_loadBy 248 = .ok (.goto 4, 3) := by decide +kernel
theorem dX7_loadBy_251 : decode cX7_loadBy 251 = .ok (.iload_n 1, 1) := by decide +kernel
theorem dX7_loadBy_252 : decode cX7_loadBy 252 = .ok (.istore_n 1, 1) := by decide +kernel
theorem dX7_loadBy_253 : decode cX7_loadBy 253 = .ok (.iinc 2 1, 3) := by decide +kernel
theorem dX7_loadBy_256 : decode cX7_loadBy 256 = .ok (.goto (-217), 3) := by decide +kernel
theorem dX7_loadBy_259 : decode cX7_loadBy 259 = .ok (.aload_n 0, 1) := by decide +kernel
theorem dX7_loadBy_260 : decode cX7_loadBy 260 = .ok (.iconst 1, 1) := by decide +kernel
theorem dX7_loadBy_261 : decode cX7_loadBy 261 = .ok (.iconst 0, 1) := by decide +kernel
theorem dX7_loadBy_262 : decode cX7_loadBy 262 = .ok (.invokevirtual 124, 3) := by decide +kernel
theorem dX7_loadBy_265 : decode cX7_loadBy 265 = .ok (.aload_n 0, 1) := by decide +kernel
theorem dX7_loadBy_266 : decode cX7_loadBy 266 = .ok (.getfield 240, 3) := by decide +kernel
theorem dX7_loadBy_269 : decode cX7_loadBy 269 = .ok (.aload_n 0, 1) := by decide +kernel
theorem dX7_loadBy_270 : decode cX7_loadBy 270 = .ok (.getfield 231, 3) := by decide +kernel
theorem dX7_loadBy_273 : decode cX7_loadBy 273 = .ok (.if_icmp .ne 7, 3) := by decide +kernel
theorem dX7_loadBy_276 : decode cX7_loadBy 276 = .ok (.iload_n 1, 1) := by decide +kernel
theorem dX7_loadBy_277 : decode cX7_loadBy 277 = .ok (.goto 5, 3) := by decide +kernel
theorem dX7_loadBy_280 : decode cX7_loadBy 280 = .ok (.bipush (-9), 2) := by decide +kernel
theorem dX7_loadBy_282 : decode cX7_loadBy 282 = .ok (.ireturn, 1) := by decide +kernel
theorem dX7_nextChoice_0 : decode cX7_nextChoice 0 = .ok (.iload_n 1, 1) := by decide +kernel
theorem dX7_nextChoice_1 : decode cX7_nextChoice 1 = .ok (.istore_n 2, 1) := by decide +kernel
theorem dX7_nextChoice_2 : decode cX7_nextChoice 2 = .ok (.iload_n 2, 1) := by decide +kernel
theorem dX7_nextChoice_3 : decode cX7_nextChoice 3 = .ok (.iconst 1, 1) := by decide +kernel
theorem dX7_nextChoice_4 : decode cX7_nextChoice 4 = .ok (.iadd, 1) := by decide +kernel
theorem dX7_nextChoice_5 : decode cX7_nextChoice 5 = .ok (.istore_n 3, 1) := by decide +kernel
theorem dX7_nextChoice_6 : decode cX7_nextChoice 6 = .ok (.iload_n 3, 1) := by decide +kernel
theorem dX7_nextChoice_7 : decode cX7_nextChoice 7 = .ok (.aload_n 0, 1) := by decide +kernel
theorem dX7_nextChoice_8 : decode cX7_nextChoice 8 = .ok (.getfield 231, 3) := by decide +kernel
theorem dX7_nextChoice_11 : decode cX7_nextChoice 11 = .ok (.if_icmp .ge 16, 3) := by decide +kernel
theorem dX7_nextChoice_14 : decode cX7_nextChoice 14 = .ok (.aload_n 0, 1) := by decide +kernel
theorem dX7_nextChoice_15 : decode cX7_nextChoice 15 = .ok (.getfield 64, 3) := by decide +kernel
theorem dX7_nextChoice_18 : decode cX7_nextChoice 18 = .ok (.iload_n 3, 1) := by decide +kernel
theorem dX7_nextChoice_19 : decode cX7_nextChoice 19 = .ok (.iconst 0, 1) := by decide +kernel
theorem dX7_nextChoice_20 : decode cX7_nextChoice 20 = .ok (.iastore, 1) := by decide +kernel
theorem dX7_nextChoice_21 : decode cX7_nextChoice 21 = .ok (.iinc 3 1, 3) := by decide +kernel
theorem dX7_nextChoice_24 : decode cX7_nextChoice 24 = .ok (.goto (-18), 3) := by decide +kernel
theorem dX7_nextChoice_27 : decode cX7_nextChoice 27 = .ok (.iload_n 2, 1) := by decide +kernel
theorem dX7_nextChoice_28 : decode cX7_nextChoice 28 = .ok (.ifCond .lt 27, 3) := by decide +kernel
theorem dX7_nextChoice_31 : decode cX7_nextChoice 31 = .ok (.aload_n 0, 1) := by decide +kernel
theorem dX7_nextChoice_32 : decode cX7_nextChoice 32 = .ok (.getfield 64, 3) := by decide +kernel
theorem dX7_nextChoice_35 : decode cX7_nextChoice 35 = .ok (.iload_n 2, 1) := by decide +kernel
theorem dX7_nextChoice_36 : decode cX7_nextChoice 36 = .ok (.iaload, 1) := by decide +kernel
theorem dX7_nextChoice_37 : decode cX7_nextChoice 37 = .ok (.bipush 7, 2) := by decide +kernel
theorem dX7_nextChoice_39 : decode cX7_nextChoice 39 = .ok (.if_icmp .ne 16, 3) := by decide +kernel
theorem dX7_nextChoice_42 : decode cX7_nextChoice 42 = .ok (.aload_n 0, 1) := by decide +kernel
theorem dX7_nextChoice_43 : decode cX7_nextChoice 43 = .ok (.getfield 64, 3) := by decide +kernel
theorem dX7_nextChoice_46 : decode cX7_nextChoice 46 = .ok (.iload_n 2, 1) := by decide +kernel
theorem dX7_nextChoice_47 : decode cX7_nextChoice 47 = .ok (.iconst 0, 1) := by decide +kernel
theorem dX7_nextChoice_48 : decode cX7_nextChoice 48 = .ok (.iastore, 1) := by decide +kernel
theorem dX7_nextChoice_49 : decode cX7_nextChoice 49 = .ok (.iinc 2 (-1), 3) := by decide +kernel
theorem dX7_nextChoice_52 : decode cX7_nextChoice 52 = .ok (.goto (-25), 3) := by decide +kernel
theorem dX7_nextChoice_55 : decode cX7_nextChoice 55 = .ok (.iload_n 2, 1) := by decide +kernel
theorem dX7_nextChoice_56 : decode cX7_nextChoice 56 = .ok (.ifCond .ge 5, 3) := by decide +kernel
theorem dX7_nextChoice_59 : decode cX7_nextChoice 59 = .ok (.iconst 0, 1) := by decide +kernel
theorem dX7_nextChoice_60 : decode cX7_nextChoice 60 = .ok (.ireturn, 1) := by decide +kernel
theorem dX7_nextChoice_61 : decode cX7_nextChoice 61 = .ok (.aload_n 0, 1) := by decide +kernel
theorem dX7_nextChoice_62 : decode cX7_nextChoice 62 = .ok (.getfield 64, 3) := by decide +kernel
theorem dX7_nextChoice_65 : decode cX7_nextChoice 65 = .ok (.iload_n 2, 1) := by decide +kernel
theorem dX7_nextChoice_66 : decode cX7_nextChoice 66 = .ok (.dup2, 1) := by decide +kernel
theorem dX7_nextChoice_67 : decode cX7_nextChoice 67 = .ok (.iaload, 1) := by decide +kernel
theorem dX7_nextChoice_68 : decode cX7_nextChoice 68 = .ok (.iconst 1, 1) := by decide +kernel
theorem dX7_nextChoice_69 : decode cX7_nextChoice 69 = .ok (.iadd, 1) := by decide +kernel
theorem dX7_nextChoice_70 : decode cX7_nextChoice 70 = .ok (.iastore, 1) := by decide +kernel
theorem dX7_nextChoice_71 : decode cX7_nextChoice 71 = .ok (.iconst 1, 1) := by decide +kernel
theorem dX7_nextChoice_72 : decode cX7_nextChoice 72 = .ok (.ireturn, 1) := by decide +kernel
set_option maxRecDepth 20000 in
theorem ggX7_load_X7_no : GoodIn wsX7_load wsX7_no := goodIn_r _ [9, 10, 87, 88, 89, 90, 91, 92, 93, 94, 95, 96, 97, 98, 99, 100, 101, 102, 103, 104, 105, 106, 107, 108, 109, 110, 111, 112, 113, 114, 115, 116, 117, 118, 119] (by decide +kernel) (by decide +kernel)
set_option maxRecDepth 20000 in
theorem gX7_load_X7_no : GoodIn wsX7_load (wsV RX7 89 RX7 yX7_no wsX7_no) := goodIn_app (goodIn_of _ (by decide +kernel)) ggX7_load_X7_no
set_option maxRecDepth 20000 in
theorem ggX7_load_X7_loadBy : GoodIn wsX7_load wsX7_loadBy := goodIn_r _ [14, 15, 3, 4, 16, 2, 17, 18, 19, 8, 20, 21, 22, 23, 24, 25, 26, 27, 1, 28, 29, 30, 31, 32, 33, 34, 35, 36, 37, 38, 39, 40, 41, 42, 43, 44, 45, 46, 47, 48, 49, 50, 51, 52, 53, 54, 55, 56, 57, 58, 59, 60, 61, 62, 63, 64, 65, 66, 67, 68, 69, 70, 71, 72, 73, 74, 75, 76, 77, 78, 79, 80, 81, 82, 87, 88, 89, 90, 91, 92, 93, 94, 95, 96, 97, 98, 99, 100, 101, 102, 103, 104, 105, 106, 107, 108, 109, 110, 111, 112, 113, 114, 115, 116, 117, 118, 119] (by decide +kernel) (by decide +kernel)
set_option maxRecDepth 20000 in
theorem gX7_load_X7_loadBy : GoodIn wsX7_load (wsV RX7 243 RX7 yX7_loadBy wsX7_loadBy) := goodIn_app (goodIn_of _ (by decide +kernel)) ggX7_load_X7_loadBy
set_option maxRecDepth 20000 in
theorem ggX7_load_X7_nextChoice : GoodIn wsX7_load wsX7_nextChoice := goodIn_r _ [86, 3, 2, 87, 88, 89, 90, 91, 92, 93, 94, 95, 96, 97, 98, 99, 100, 101, 102, 103, 104, 105, 106, 107, 108, 109, 110, 111, 112, 113, 114, 115, 116, 117, 118, 119] (by decide +kernel) (by decide +kernel)
set_option maxRecDepth 20000 in
theorem gX7_load_X7_nextChoice : GoodIn wsX7_load (wsV RX7 246 RX7 yX7_nextChoice wsX7_nextChoice) := goodIn_app (goodIn_of _ (by decide +kernel)) ggX7_load_X7_nextChoice
theorem dX7_load_0 : decode cX7_load 0 = .ok (.aload_n 0, 1) := by decide +kernel
theorem dX7_load_1 : decode cX7_load 1 = .ok (.getfield 109, 3) := by decide +kernel
theorem dX7_load_4 : decode cX7_load 4 = .ok (.iconst 1, 1) := by decide +kernel
theorem dX7_load_5 : decode cX7_load 5 = .ok (.if_icmp .ne 10, 3) := by decide +kernel
theorem dX7_load_8 : decode cX7_load 8 = .ok (.aload_n 0, 1) := by decide +kernel
theorem dX7_load_9 : decode cX7_load 9 = .ok (.bipush (-3), 2) := by decide +kernel
theorem dX7_load_11 : decode cX7_load 11 = .ok (.invokevirtual 89, 3) := by decide +kernel
theorem dX7_load_14 : decode cX7_load 14 = .ok (.ireturn, 1) := by decide +kernel
theorem dX7_load_15 : decode cX7_load 15 = .ok (.iconst 0, 1) := by decide +kernel
theorem dX7_load_16 : decode cX7_load 16 = .ok (.istore_n 1, 1) := by decide +kernel
theorem dX7_load_17 : decode cX7_load 17 = .ok (.iload_n 1, 1) := by decide +kernel
theorem dX7_load_18 : decode cX7_load 18 = .ok (.bipush 6, 2) := by decide +kernel
theorem dX7_load_20 : decode cX7_load 20 = .ok (.if_icmp .ge 16, 3) := by decide +kernel
theorem dX7_load_23 : decode cX7_load 23 = .ok (.aload_n 0, 1) := by decide +kernel
theorem dX7_load_24 : decode cX7_load 24 = .ok (.getfield 64, 3) := by decide +kernel
theorem dX7_load_27 : decode cX7_load 27 = .ok (.iload_n 1, 1) := by decide +kernel
theorem dX7_load_28 : decode cX7_load 28 = .ok (.iconst 0, 1) := by decide +kernel
theorem dX7_load_29 : decode cX7_load 29 = .ok (.iastore, 1) := by decide +kernel
theorem dX7_load_30 : decode cX7_load 30 = .ok (.iinc 1 1, 3) := by decide +kernel
theorem dX7_load_33 : decode cX7_load 33 = .ok (.goto (-16), 3) := by decide +kernel
theorem dX7_load_36 : decode cX7_load 36 = .ok (.aload_n 0, 1) := by decide +kernel
theorem dX7_load_37 : decode cX7_load 37 = .ok (.getfield 231, 3) := by decide +kernel
theorem dX7_load_40 : decode cX7_load 40 = .ok (.ifCond .ne 5, 3) := by decide +kernel
theorem dX7_load_43 : decode cX7_load 43 = .ok (.iconst 0, 1) := by decide +kernel
theorem dX7_load_44 : decode cX7_load 44 = .ok (.ireturn, 1) := by decide +kernel
theorem dX7_load_45 : decode cX7_load 45 = .ok (.bipush (-9), 2) := by decide +kernel
theorem dX7_load_47 : decode cX7_load 47 = .ok (.istore_n 1, 1) := by decide +kernel
theorem dX7_load_48 : decode cX7_load 48 = .ok (.iconst 1, 1) := by decide +kernel
theorem dX7_load_49 : decode cX7_load 49 = .ok (.istore_n 2, 1) := by decide +kernel
theorem dX7_load_50 : decode cX7_load 50 = .ok (.iload_n 2, 1) := by decide +kernel
theorem dX7_load_51 : decode cX7_load 51 = .ok (.ifCond .eq 55, 3) := by decide +kernel
theorem dX7_load_54 : decode cX7_load 54 = .ok (.aload_n 0, 1) := by decide +kernel
theorem dX7_load_55 : decode cX7_load 55 = .ok (.invokevirtual 243, 3) := by decide +kernel
theorem dX7_load_58 : decode cX7_load 58 = .ok (.istore_n 3, 1) := by decide +kernel
theorem dX7_load_59 : decode cX7_load 59 = .ok (.iload_n 3, 1) := by decide +kernel
theorem dX7_load_60 : decode cX7_load 60 = .ok (.ifCond .lt 14, 3) := by decide +kernel
theorem dX7_load_63 : decode cX7_load 63 = .ok (.iload_n 1, 1) := by decide +kernel
theorem dX7_load_64 : decode cX7_load 64 = .ok (.ifCond .lt 8, 3) := by decide +kernel
theorem dX7_load_67 : decode cX7_load 67 = .ok (.iload_n 3, 1) := by decide +kernel
theorem dX7_load_68 : decode cX7_load 68 = .ok (.iload_n 1, 1) := by decide +kernel
theorem dX7_load_69 : decode cX7_load 69 = .ok (.if_icmp .ge 5, 3) := by decide +kernel
theorem dX7_load_72 : decode cX7_load 72 = .ok (.iload_n 3, 1) := by decide +kernel
theorem dX7_load_73 : decode cX7_load 73 = .ok (.istore_n 1, 1) := by decide +kernel
theorem dX7_load_74 : decode cX7_load 74 = .ok (.aload_n 0, 1) := by decide +kernel
theorem dX7_load_75 : decode cX7_load 75 = .ok (.aload_n 0, 1) := by decide +kernel
theorem dX7_load_76 : decode cX7_load 76 = .ok (.getfield 240, 3) := by decide +kernel
theorem dX7_load_79 : decode cX7_load 79 = .ok (.aload_n 0, 1) := by decide +kernel
theorem dX7_load_80 : decode cX7_load 80 = .ok (.getfield 231, 3) := by decide +kernel
theorem dX7_load_83 : decode cX7_load 83 = .ok (.if_icmp .ne 12, 3) := by decide +kernel
theorem dX7_load_86 : decode cX7_load 86 = .ok (.aload_n 0, 1) := by decide +kernel
theorem dX7_load_87 : decode cX7_load 87 = .ok (.getfield 231, 3) := by decide +kernel
theorem dX7_load_90 : decode cX7_load 90 = .ok (.iconst 1, 1) := by decide +kernel
theorem dX7_load_91 : decode cX7_load 91 = .ok (.isub, 1) := by decide +kernel
theorem dX7_load_92 : decode cX7_load 92 = .ok (.goto 7, 3) := by decide +kernel
theorem dX7_load_95 : decode cX7_load 95 = .ok (.aload_n 0, 1) := by decide +kernel
theorem dX7_load_96 : decode cX7_load 96 = .ok (.getfield 240, 3) := by decide +kernel
theorem dX7_load_99 : decode cX7_load 99 = .ok (.invokevirtual 246, 3) := by decide +kernel
theorem dX7_load_102 : decode cX7_load 102 = .ok (.istore_n 2, 1) := by decide +kernel
theorem dX7_load_103 : decode cX7_load 103 = .ok (.goto (-53), 3) := by decide +kernel
theorem dX7_load_106 : decode cX7_load 106 = .ok (.iload_n 1, 1) := by decide +kernel
theorem dX7_load_107 : decode cX7_load 107 = .ok (.ireturn, 1) := by decide +kernel
set_option maxRecDepth 20000 in
theorem ggX7_nextOrder_X7_changes : GoodIn wsX7_nextOrder wsX7_changes := goodIn_r _ [7, 2, 8, 9, 10, 11, 12, 13, 14, 15, 16, 17, 18, 19, 20, 21, 22, 23, 24, 25, 26, 27, 28, 29, 30, 31, 32, 33, 34, 35, 36, 37, 38, 39, 40] (by decide +kernel) (by decide +kernel)
set_option maxRecDepth 20000 in
theorem gX7_nextOrder_X7_changes : GoodIn wsX7_nextOrder (wsV RX7 249 RX7 yX7_changes wsX7_changes) := goodIn_app (goodIn_of _ (by decide +kernel)) ggX7_nextOrder_X7_changes
theorem dX7_nextOrder_0 : decode cX7_nextOrder 0 = .ok (.aload_n 0, 1) := by decide +kernel
theorem dX7_nextOrder_1 : decode cX7_nextOrder 1 = .ok (.getfield 231, 3) := by decide +kernel
theorem dX7_nextOrder_4 : decode cX7_nextOrder 4 = .ok (.iconst 2, 1) := by decide +kernel
theorem dX7_nextOrder_5 : decode cX7_nextOrder 5 = .ok (.isub, 1) := by decide +kernel
theorem dX7_nextOrder_6 : decode cX7_nextOrder 6 = .ok (.istore_n 1, 1) := by decide +kernel
theorem dX7_nextOrder_7 : decode cX7_nextOrder 7 = .ok (.iload_n 1, 1) := by decide +kernel
theorem dX7_nextOrder_8 : decode cX7_nextOrder 8 = .ok (.ifCond .lt 26, 3) := by decide +kernel
theorem dX7_nextOrder_11 : decode cX7_nextOrder 11 = .ok (.aload_n 0, 1) := by decide +kernel
theorem dX7_nextOrder_12 : decode cX7_nextOrder 12 = .ok (.getfield 61, 3) := by decide +kernel
theorem dX7_nextOrder_15 : decode cX7_nextOrder 15 = .ok (.iload_n 1, 1) := by decide +kernel
theorem dX7_nextOrder_16 : decode cX7_nextOrder 16 = .ok (.iaload, 1) := by decide +kernel
theorem dX7_nextOrder_17 : decode cX7_nextOrder 17 = .ok (.aload_n 0, 1) := by decide +kernel
theorem dX7_nextOrder_18 : decode cX7_nextOrder 18 = .ok (.getfield 61, 3) := by decide +kernel
theorem dX7_nextOrder_21 : decode cX7_nextOrder 21 = .ok (.iload_n 1, 1) := by decide +kernel
theorem dX7_nextOrder_22 : decode cX7_nextOrder 22 = .ok (.iconst 1, 1) := by decide +kernel
theorem dX7_nextOrder_23 : decode cX7_nextOrder 23 = .ok (.iadd, 1) := by decide +kernel
theorem dX7_nextOrder_24 : decode cX7_nextOrder 24 = .ok (.iaload, 1) := by decide +kernel
theorem dX7_nextOrder_25 : decode cX7_nextOrder 25 = .ok (.if_icmp .le 9, 3) := by decide +kernel
theorem dX7_nextOrder_28 : decode cX7_nextOrder 28 = .ok (.iinc 1 (-1), 3) := by decide +kernel
theorem dX7_nextOrder_31 : decode cX7_nextOrder 31 = .ok (.goto (-24), 3) := by decide +kernel
theorem dX7_nextOrder_34 : decode cX7_nextOrder 34 = .ok (.iload_n 1, 1) := by decide +kernel
theorem dX7_nextOrder_35 : decode cX7_nextOrder 35 = .ok (.ifCond .ge 5, 3) := by decide +kernel
theorem dX7_nextOrder_38 : decode cX7_nextOrder 38 = .ok (.iconst 0, 1) := by decide +kernel
theorem dX7_nextOrder_39 : decode cX7_nextOrder 39 = .ok (.ireturn, 1) := by decide +kernel
theorem dX7_nextOrder_40 : decode cX7_nextOrder 40 = .ok (.aload_n 0, 1) := by decide +kernel
theorem dX7_nextOrder_41 : decode cX7_nextOrder 41 = .ok (.getfield 231, 3) := by decide +kernel
theorem dX7_nextOrder_44 : decode cX7_nextOrder 44 = .ok (.iconst 1, 1) := by decide +kernel
theorem dX7_nextOrder_45 : decode cX7_nextOrder 45 = .ok (.isub, 1) := by decide +kernel
theorem dX7_nextOrder_46 : decode cX7_nextOrder 46 = .ok (.istore_n 2, 1) := by decide +kernel
theorem dX7_nextOrder_47 : decode cX7_nextOrder 47 = .ok (.aload_n 0, 1) := by decide +kernel
theorem dX7_nextOrder_48 : decode cX7_nextOrder 48 = .ok (.getfield 61, 3) := by decide +kernel
theorem dX7_nextOrder_51 : decode cX7_nextOrder 51 = .ok (.iload_n 2, 1) := by decide +kernel
theorem dX7_nextOrder_52 : decode cX7_nextOrder 52 = .ok (.iaload, 1) := by decide +kernel
theorem dX7_nextOrder_53 : decode cX7_nextOrder 53 = .ok (.aload_n 0, 1) := by decide +kernel
theorem dX7_nextOrder_54 : decode cX7_nextOrder 54 = .ok (.getfield 61, 3) := by decide +kernel
theorem dX7_nextOrder_57 : decode cX7_nextOrder 57 = .ok (.iload_n 1, 1) := by decide +kernel
theorem dX7_nextOrder_58 : decode cX7_nextOrder 58 = .ok (.iaload, 1) := by decide +kernel
theorem dX7_nextOrder_59 : decode cX7_nextOrder 59 = .ok (.if_icmp .ge 9, 3) := by decide +kernel
theorem dX7_nextOrder_62 : decode cX7_nextOrder 62 = .ok (.iinc 2 (-1), 3) := by decide +kernel
theorem dX7_nextOrder_65 : decode cX7_nextOrder 65 = .ok (.goto (-18), 3) := by decide +kernel
theorem dX7_nextOrder_68 : decode cX7_nextOrder 68 = .ok (.aload_n 0, 1) := by decide +kernel
theorem dX7_nextOrder_69 : decode cX7_nextOrder 69 = .ok (.iload_n 1, 1) := by decide +kernel
theorem dX7_nextOrder_70 : decode cX7_nextOrder 70 = .ok (.iload_n 2, 1) := by decide +kernel
theorem dX7_nextOrder_71 : decode cX7_nextOrder 71 = .ok (.invokevirtual 249, 3) := by decide +kernel
theorem dX7_nextOrder_74 : decode cX7_nextOrder 74 = .ok (.iload_n 1, 1) := by decide +kernel
theorem dX7_nextOrder_75 : decode cX7_nextOrder 75 = .ok (.iconst 1, 1) := by decide +kernel
theorem dX7_nextOrder_76 : decode cX7_nextOrder 76 = .ok (.iadd, 1) := by decide +kernel
theorem dX7_nextOrder_77 : decode cX7_nextOrder 77 = .ok (.istore_n 3, 1) := by decide +kernel
theorem dX7_nextOrder_78 : decode cX7_nextOrder 78 = .ok (.aload_n 0, 1) := by decide +kernel
theorem dX7_nextOrder_79 : decode cX7_nextOrder 79 = .ok (.getfield 231, 3) := by decide +kernel
theorem dX7_nextOrder_82 : decode cX7_nextOrder 82 = .ok (.iconst 1, 1) := by decide +kernel
theorem dX7_nextOrder_83 : decode cX7_nextOrder 83 = .ok (.isub, 1) := by decide +kernel
theorem dX7_nextOrder_84 : decode cX7_nextOrder 84 = .ok (.istore 4, 2) := by decide +kernel
theorem dX7_nextOrder_86 : decode cX7_nextOrder 86 = .ok (.iload_n 3, 1) := by decide +kernel
theorem dX7_nextOrder_87 : decode cX7_nextOrder 87 = .ok (.iload 4, 2) := by decide +kernel
theorem dX7_nextOrder_89 : decode cX7_nextOrder 89 = .ok (.if_icmp .ge 19, 3) := by decide +kernel
theorem dX7_nextOrder_92 : decode cX7_nextOrder 92 = .ok (.aload_n 0, 1) := by decide +kernel
theorem dX7_nextOrder_93 : decode cX7_nextOrder 93 = .ok (.iload_n 3, 1) := by decide +kernel
theorem dX7_nextOrder_94 : decode cX7_nextOrder 94 = .ok (.iload 4, 2) := by decide +kernel
theorem dX7_nextOrder_96 : decode cX7_nextOrder 96 = .ok (.invokevirtual 249, 3) := by decide +kernel
theorem dX7_nextOrder_99 : decode cX7_nextOrder 99 = .ok (.iinc 3 1, 3) := by decide +kernel
theorem dX7_nextOrder_102 : decode cX7_nextOrder 102 = .ok (.iinc 4 (-1), 3) := by decide +kernel
theorem dX7_nextOrder_105 : decode cX7_nextOrder 105 = .ok (.goto (-19), 3) := by decide +kernel
theorem dX7_nextOrder_108 : decode cX7_nextOrder 108 = .ok (.iconst 1, 1) := by decide +kernel
theorem dX7_nextOrder_109 : decode cX7_nextOrder 109 = .ok (.ireturn, 1) := by decide +kernel
theorem dX7_changes_0 : decode cX7_changes 0 = .ok (.aload_n 0, 1) := by decide +kernel
theorem dX7_changes_1 : decode cX7_changes 1 = .ok (.getfield 61, 3) := by decide +kernel
theorem dX7_changes_4 : decode cX7_changes 4 = .ok (.iload_n 1, 1) := by decide +kernel
theorem dX7_changes_5 : decode cX7_changes 5 = .ok (.iaload, 1) := by decide +kernel
theorem dX7_changes_6 : decode cX7_changes 6 = .ok (.istore_n 3, 1) := by decide +kernel
theorem dX7_changes_7 : decode cX7_changes 7 = .ok (.aload_n 0, 1) := by decide +kernel
theorem dX7_changes_8 : decode cX7_changes 8 = .ok (.getfield 61, 3) := by decide +kernel
theorem dX7_changes_11 : decode cX7_changes 11 = .ok (.iload_n 1, 1) := by decide +kernel
theorem dX7_changes_12 : decode cX7_changes 12 = .ok (.aload_n 0, 1) := by decide +kernel
theorem dX7_changes_13 : decode cX7_changes 13 = .ok (.getfield 61, 3) := by decide +kernel
theorem dX7_changes_16 : decode cX7_changes 16 = .ok (.iload_n 2, 1) := by decide +kernel
theorem dX7_changes_17 : decode cX7_changes 17 = .ok (.iaload, 1) := by decide +kernel
theorem dX7_changes_18 : decode cX7_changes 18 = .ok (.iastore, 1) := by decide +kernel
theorem dX7_changes_19 : decode cX7_changes 19 = .ok (.aload_n 0, 1) := by decide +kernel
theorem dX7_changes_20 : decode cX7_changes 20 = .ok (.getfield 61, 3) := by decide +kernel
theorem dX7_changes_23 : decode cX7_changes 23 = .ok (.iload_n 2, 1) := by decide +kernel
theorem dX7_changes_24 : decode cX7_changes 24 = .ok (.iload_n 3, 1) := by decide +kernel
theorem dX7_changes_25 : decode cX7_changes 25 = .ok (.iastore, 1) := by decide +kernel
theorem dX7_changes_26 : decode cX7_changes 26 = .ok (.return_, 1) := by decide +kernel
set_option maxRecDepth 20000 in
theorem ggX7_cards_X7_no : GoodIn wsX7_cards wsX7_no := goodIn_r _ [7, 8, 89, 90, 91, 92, 93, 94, 95, 96, 97, 98, 99, 100, 101, 102, 103, 104, 105, 106, 107, 108, 109, 110, 111, 112, 113, 114, 115, 116, 117, 118, 119, 120, 121] (by decide +kernel) (by decide +kernel)
set_option maxRecDepth 20000 in
theorem gX7_cards_X7_no : GoodIn wsX7_cards (wsV RX7 89 RX7 yX7_no wsX7_no) := goodIn_app (goodIn_of _ (by decide +kernel)) ggX7_cards_X7_no
set_option maxRecDepth 20000 in
theorem ggX7_cards_X7_judged : GoodIn wsX7_cards wsX7_judged := goodIn_r _ [12, 1, 13, 2, 14, 15, 16, 6, 17, 18, 19, 20, 21, 22, 23, 24, 25, 26, 27, 28, 29, 30, 31, 32, 33, 34, 35, 36, 37, 38, 39, 40, 41, 42, 43, 44, 45, 46, 47, 48, 49, 50, 51, 52, 53, 54, 55, 56, 57, 58, 59, 60, 61, 62, 63, 64, 65, 66, 67, 68, 69, 70, 71, 72, 73, 74, 75, 76, 77, 78, 79, 80, 89, 90, 91, 92, 93, 94, 95, 96, 97, 98, 99, 100, 101, 102, 103, 104, 105, 106, 107, 108, 109, 110, 111, 112, 113, 114, 115, 116, 117, 118, 119, 120, 121] (by decide +kernel) (by decide +kernel)
set_option maxRecDepth 20000 in
theorem gX7_cards_X7_judged : GoodIn wsX7_cards (wsV RX7 237 RX7 yX7_judged wsX7_judged) := goodIn_app (goodIn_of _ (by decide +kernel)) ggX7_cards_X7_judged
set_option maxRecDepth 20000 in
theorem ggX7_cards_X7_nextOrder : GoodIn wsX7_cards wsX7_nextOrder := goodIn_r _ [84, 1, 2, 85, 86, 87, 6, 88, 89, 90, 91, 92, 93, 94, 95, 96, 97, 98, 99, 100, 101, 102, 103, 104, 105, 106, 107, 108, 109, 110, 111, 112, 113, 114, 115, 116, 117, 118, 119, 120, 121] (by decide +kernel) (by decide +kernel)
set_option maxRecDepth 20000 in
theorem gX7_cards_X7_nextOrder : GoodIn wsX7_cards (wsV RX7 252 RX7 yX7_nextOrder wsX7_nextOrder) := goodIn_app (goodIn_of _ (by decide +kernel)) ggX7_cards_X7_nextOrder
theorem dX7_cards_0 : decode cX7_cards 0 = .ok (.aload_n 0, 1) := by decide +kernel
theorem dX7_cards_1 : decode cX7_cards 1 = .ok (.getfield 231, 3) := by decide +kernel
theorem dX7_cards_4 : decode cX7_cards 4 = .ok (.iconst 5, 1) := by decide +kernel
theorem dX7_cards_5 : decode cX7_cards 5 = .ok (.if_icmp .le 10, 3) := by decide +kernel
theorem dX7_cards_8 : decode cX7_cards 8 = .ok (.aload_n 0, 1) := by decide +kernel
theorem dX7_cards_9 : decode cX7_cards 9 = .ok (.bipush (-6), 2) := by decide +kernel
theorem dX7_cards_11 : decode cX7_cards 11 = .ok (.invokevirtual 89, 3) := by decide +kernel
theorem dX7_cards_14 : decode cX7_cards 14 = .ok (.ireturn, 1) := by decide +kernel
theorem dX7_cards_15 : decode cX7_cards 15 = .ok (.iconst 0, 1) := by decide +kernel
theorem dX7_cards_16 : decode cX7_cards 16 = .ok (.istore_n 1, 1) := by decide +kernel
theorem dX7_cards_17 : decode cX7_cards 17 = .ok (.iload_n 1, 1) := by decide +kernel
theorem dX7_cards_18 : decode cX7_cards 18 = .ok (.aload_n 0, 1) := by decide +kernel
theorem dX7_cards_19 : decode cX7_cards 19 = .ok (.getfield 231, 3) := by decide +kernel
theorem dX7_cards_22 : decode cX7_cards 22 = .ok (.if_icmp .ge 16, 3) := by decide +kernel
theorem dX7_cards_25 : decode cX7_cards 25 = .ok (.aload_n 0, 1) := by decide +kernel
theorem dX7_cards_26 : decode cX7_cards 26 = .ok (.getfield 61, 3) := by decide +kernel
theorem dX7_cards_29 : decode cX7_cards 29 = .ok (.iload_n 1, 1) := by decide +kernel
theorem dX7_cards_30 : decode cX7_cards 30 = .ok (.iload_n 1, 1) := by decide +kernel
theorem dX7_cards_31 : decode cX7_cards 31 = .ok (.iastore, 1) := by decide +kernel
theorem dX7_cards_32 : decode cX7_cards 32 = .ok (.iinc 1 1, 3) := by decide +kernel
theorem dX7_cards_35 : decode cX7_cards 35 = .ok (.goto (-18), 3) := by decide +kernel
theorem dX7_cards_38 : decode cX7_cards 38 = .ok (.iconst 0, 1) := by decide +kernel
theorem dX7_cards_39 : decode cX7_cards 39 = .ok (.istore_n 1, 1) := by decide +kernel
theorem dX7_cards_40 : decode cX7_cards 40 = .ok (.iconst 1, 1) := by decide +kernel
theorem dX7_cards_41 : decode cX7_cards 41 = .ok (.istore_n 2, 1) := by decide +kernel
theorem dX7_cards_42 : decode cX7_cards 42 = .ok (.iload_n 2, 1) := by decide +kernel
theorem dX7_cards_43 : decode cX7_cards 43 = .ok (.ifCond .eq 26, 3) := by decide +kernel
theorem dX7_cards_46 : decode cX7_cards 46 = .ok (.iload_n 1, 1) := by decide +kernel
theorem dX7_cards_47 : decode cX7_cards 47 = .ok (.aload_n 0, 1) := by decide +kernel
theorem dX7_cards_48 : decode cX7_cards 48 = .ok (.invokevirtual 237, 3) := by decide +kernel
theorem dX7_cards_51 : decode cX7_cards 51 = .ok (.ifCond .ge 7, 3) := by decide +kernel
theorem dX7_cards_54 : decode cX7_cards 54 = .ok (.iconst 1, 1) := by decide +kernel
theorem dX7_cards_55 : decode cX7_cards 55 = .ok (.goto 4, 3) := by decide +kernel
theorem dX7_cards_58 : decode cX7_cards 58 = .ok (.iconst 0, 1) := by decide +kernel
theorem dX7_cards_59 : decode cX7_cards 59 = .ok (.iadd, 1) := by decide +kernel
theorem dX7_cards_60 : decode cX7_cards 60 = .ok (.istore_n 1, 1) := by decide +kernel
theorem dX7_cards_61 : decode cX7_cards 61 = .ok (.aload_n 0, 1) := by decide +kernel
theorem dX7_cards_62 : decode cX7_cards 62 = .ok (.invokevirtual 252, 3) := by decide +kernel
theorem dX7_cards_65 : decode cX7_cards 65 = .ok (.istore_n 2, 1) := by decide +kernel
theorem dX7_cards_66 : decode cX7_cards 66 = .ok (.goto (-24), 3) := by decide +kernel
theorem dX7_cards_69 : decode cX7_cards 69 = .ok (.iload_n 1, 1) := by decide +kernel
theorem dX7_cards_70 : decode cX7_cards 70 = .ok (.ireturn, 1) := by decide +kernel
set_option maxRecDepth 20000 in
theorem ggX7_seeds_X7_bound : GoodIn wsX7_seeds wsX7_bound := goodIn_r _ [8] (by decide +kernel) (by decide +kernel)
set_option maxRecDepth 20000 in
theorem gX7_seeds_X7_bound : GoodIn wsX7_seeds (va_wsS RX7 82 yX7_bound wsX7_bound) := goodIn_app (goodIn_of _ (by decide +kernel)) ggX7_seeds_X7_bound
set_option maxRecDepth 20000 in
theorem ggX7_seeds_X7_no : GoodIn wsX7_seeds wsX7_no := goodIn_r _ [12, 13, 76, 77, 78, 79, 80, 81, 82, 83, 84, 85, 86, 87, 88, 89, 90, 91, 92, 93, 94, 95, 96, 97, 98, 99, 100, 101, 102, 103, 104, 105, 106, 107, 108] (by decide +kernel) (by decide +kernel)
set_option maxRecDepth 20000 in
theorem gX7_seeds_X7_no : GoodIn wsX7_seeds (wsV RX7 89 RX7 yX7_no wsX7_no) := goodIn_app (goodIn_of _ (by decide +kernel)) ggX7_seeds_X7_no
set_option maxRecDepth 20000 in
theorem ggX7_seeds_X7_passesAll : GoodIn wsX7_seeds wsX7_passesAll := goodIn_r _ [17, 18, 19, 20, 21, 22, 23, 1, 24, 25, 26, 27, 7, 28, 29, 30, 31, 32, 33, 76, 77, 78, 79, 80, 81, 82, 83, 84, 85, 86, 87, 88, 89, 90, 91, 92, 93, 94, 95, 96, 97, 98, 99, 100, 101, 102, 103, 104, 105, 106, 107, 108] (by decide +kernel) (by decide +kernel)
set_option maxRecDepth 20000 in
theorem gX7_seeds_X7_passesAll : GoodIn wsX7_seeds (wsV RX7 124 RX7 yX7_passesAll wsX7_passesAll) := goodIn_app (goodIn_of _ (by decide +kernel)) ggX7_seeds_X7_passesAll
set_option maxRecDepth 20000 in
theorem ggX7_seeds_X7_mayDance : GoodIn wsX7_seeds wsX7_mayDance := goodIn_r _ [37, 24, 38, 39, 40, 7, 41, 23, 42, 43, 44, 45, 20, 21, 46, 47, 48, 49, 1, 50, 51, 52, 53, 22, 54, 55, 56, 76, 77, 78, 79, 80, 81, 82, 83, 84, 85, 86, 87, 88, 89, 90, 91, 92, 93, 94, 95, 96, 97, 98, 99, 100, 101, 102, 103, 104, 105, 106, 107, 108] (by decide +kernel) (by decide +kernel)
set_option maxRecDepth 20000 in
theorem gX7_seeds_X7_mayDance : GoodIn wsX7_seeds (wsV RX7 171 RX7 yX7_mayDance wsX7_mayDance) := goodIn_app (goodIn_of _ (by decide +kernel)) ggX7_seeds_X7_mayDance
set_option maxRecDepth 20000 in
theorem ggX7_seeds_X7_dancesByLeast : GoodIn wsX7_seeds wsX7_dancesByLeast := goodIn_r _ [60, 46, 47, 48, 7, 49, 1, 24, 50, 51, 52, 53, 22, 21, 20, 23, 38, 39, 40, 41, 54, 55, 56, 61, 62, 63, 64, 65, 66, 67, 68, 69, 70, 71, 76, 77, 78, 79, 80, 81, 82, 83, 84, 85, 86, 87, 88, 89, 90, 91, 92, 93, 94, 95, 96, 97, 98, 99, 100, 101, 102, 103, 104, 105, 106, 107, 108] (by decide +kernel) (by decide +kernel)
set_option maxRecDepth 20000 in
theorem gX7_seeds_X7_dancesByLeast : GoodIn wsX7_seeds (wsV RX7 234 RX7 yX7_dancesByLeast wsX7_dancesByLeast) := goodIn_app (goodIn_of _ (by decide +kernel)) ggX7_seeds_X7_dancesByLeast
set_option maxRecDepth 20000 in
theorem ggX7_seeds_X7_pairsDanced : GoodIn wsX7_seeds wsX7_pairsDanced := goodIn_r _ [75, 1, 23, 54, 55, 7, 56, 76, 77, 78, 79, 80, 81, 82, 83, 84, 85, 86, 87, 88, 89, 90, 91, 92, 93, 94, 95, 96, 97, 98, 99, 100, 101, 102, 103, 104, 105, 106, 107, 108] (by decide +kernel) (by decide +kernel)
set_option maxRecDepth 20000 in
theorem gX7_seeds_X7_pairsDanced : GoodIn wsX7_seeds (wsV RX7 148 RX7 yX7_pairsDanced wsX7_pairsDanced) := goodIn_app (goodIn_of _ (by decide +kernel)) ggX7_seeds_X7_pairsDanced
theorem dX7_seeds_0 : decode cX7_seeds 0 = .ok (.iload_n 1, 1) := by decide +kernel
theorem dX7_seeds_1 : decode cX7_seeds 1 = .ok (.iconst 1, 1) := by decide +kernel
theorem dX7_seeds_2 : decode cX7_seeds 2 = .ok (.bipush 40, 2) := by decide +kernel
theorem dX7_seeds_4 : decode cX7_seeds 4 = .ok (.invokestatic 82, 3) := by decide +kernel
theorem dX7_seeds_7 : decode cX7_seeds 7 = .ok (.istore_n 3, 1) := by decide +kernel
theorem dX7_seeds_8 : decode cX7_seeds 8 = .ok (.iload_n 3, 1) := by decide +kernel
theorem dX7_seeds_9 : decode cX7_seeds 9 = .ok (.ifCond .ne 13, 3) := by decide +kernel
theorem dX7_seeds_12 : decode cX7_seeds 12 = .ok (.aload_n 0, 1) := by decide +kernel
theorem dX7_seeds_13 : decode cX7_seeds 13 = .ok (.getfield 70, 3) := by decide +kernel
theorem dX7_seeds_16 : decode cX7_seeds 16 = .ok (.ifCond .ne 6, 3) := by decide +kernel
theorem dX7_seeds_19 : decode cX7_seeds 19 = .ok (.bipush (-3), 2) := by decide +kernel
theorem dX7_seeds_21 : decode cX7_seeds 21 = .ok (.istore_n 3, 1) := by decide +kernel
theorem dX7_seeds_22 : decode cX7_seeds 22 = .ok (.iload_n 3, 1) := by decide +kernel
theorem dX7_seeds_23 : decode cX7_seeds 23 = .ok (.ifCond .eq 9, 3) := by decide +kernel
theorem dX7_seeds_26 : decode cX7_seeds 26 = .ok (.aload_n 0, 1) := by decide +kernel
theorem dX7_seeds_27 : decode cX7_seeds 27 = .ok (.iload_n 3, 1) := by decide +kernel
theorem dX7_seeds_28 : decode cX7_seeds 28 = .ok (.invokevirtual 89, 3) := by decide +kernel
theorem dX7_seeds_31 : decode cX7_seeds 31 = .ok (.ireturn, 1) := by decide +kernel
theorem dX7_seeds_32 : decode cX7_seeds 32 = .ok (.aload_n 0, 1) := by decide +kernel
theorem dX7_seeds_33 : decode cX7_seeds 33 = .ok (.iconst 1, 1) := by decide +kernel
theorem dX7_seeds_34 : decode cX7_seeds 34 = .ok (.iconst 1, 1) := by decide +kernel
theorem dX7_seeds_35 : decode cX7_seeds 35 = .ok (.invokevirtual 124, 3) := by decide +kernel
theorem dX7_seeds_38 : decode cX7_seeds 38 = .ok (.iload_n 2, 1) := by decide +kernel
theorem dX7_seeds_39 : decode cX7_seeds 39 = .ok (.istore 4, 2) := by decide +kernel
theorem dX7_seeds_41 : decode cX7_seeds 41 = .ok (.iconst 0, 1) := by decide +kernel
theorem dX7_seeds_42 : decode cX7_seeds 42 = .ok (.istore 5, 2) := by decide +kernel
theorem dX7_seeds_44 : decode cX7_seeds 44 = .ok (.iload 5, 2) := by decide +kernel
theorem dX7_seeds_46 : decode cX7_seeds 46 = .ok (.iload_n 1, 1) := by decide +kernel
theorem dX7_seeds_47 : decode cX7_seeds 47 = .ok (.if_icmp .ge 91, 3) := by decide +kernel
theorem dX7_seeds_50 : decode cX7_seeds 50 = .ok (.iload 4, 2) := by decide +kernel
theorem dX7_seeds_52 : decode cX7_seeds 52 = .ok (.ldc 255, 2) := by decide +kernel
theorem dX7_seeds_54 : decode cX7_seeds 54 = .ok (.imul, 1) := by decide +kernel
theorem dX7_seeds_55 : decode cX7_seeds 55 = .ok (.sipush 12345, 3) := by decide +kernel
theorem dX7_seeds_58 : decode cX7_seeds 58 = .ok (.iadd, 1) := by decide +kernel
theorem dX7_seeds_59 : decode cX7_seeds 59 = .ok (.istore 4, 2) := by decide +kernel
theorem dX7_seeds_61 : decode cX7_seeds 61 = .ok (.iload 4, 2) := by decide +kernel
theorem dX7_seeds_63 : decode cX7_seeds 63 = .ok (.ldc_w 256, 3) := by decide +kernel
theorem dX7_seeds_66 : decode cX7_seeds 66 = .ok (.iand, 1) := by decide +kernel
theorem dX7_seeds_67 : decode cX7_seeds 67 = .ok (.ldc_w 257, 3) := by decide +kernel
theorem dX7_seeds_70 : decode cX7_seeds 70 = .ok (.idiv, 1) := by decide +kernel
theorem dX7_seeds_71 : decode cX7_seeds 71 = .ok (.aload_n 0, 1) := by decide +kernel
theorem dX7_seeds_72 : decode cX7_seeds 72 = .ok (.getfield 70, 3) := by decide +kernel
theorem dX7_seeds_75 : decode cX7_seeds 75 = .ok (.irem, 1) := by decide +kernel
theorem dX7_seeds_76 : decode cX7_seeds 76 = .ok (.istore 6, 2) := by decide +kernel
theorem dX7_seeds_78 : decode cX7_seeds 78 = .ok (.iload 4, 2) := by decide +kernel
theorem dX7_seeds_80 : decode cX7_seeds 80 = .ok (.ldc 255, 2) := by decide +kernel
theorem dX7_seeds_82 : decode cX7_seeds 82 = .ok (.imul, 1) := by decide +kernel
theorem dX7_seeds_83 : decode cX7_seeds 83 = .ok (.sipush 12345, 3) := by decide +kernel
theorem dX7_seeds_86 : decode cX7_seeds 86 = .ok (.iadd, 1) := by decide +kernel
theorem dX7_seeds_87 : decode cX7_seeds 87 = .ok (.istore 4, 2) := by decide +kernel
theorem dX7_seeds_89 : decode cX7_seeds 89 = .ok (.iload 4, 2) := by decide +kernel
theorem dX7_seeds_91 : decode cX7_seeds 91 = .ok (.ldc_w 256, 3) := by decide +kernel
theorem dX7_seeds_94 : decode cX7_seeds 94 = .ok (.iand, 1) := by decide +kernel
theorem dX7_seeds_95 : decode cX7_seeds 95 = .ok (.ldc_w 257, 3) := by decide +kernel
theorem dX7_seeds_98 : decode cX7_seeds 98 = .ok (.idiv, 1) := by decide +kernel
theorem dX7_seeds_99 : decode cX7_seeds 99 = .ok (.aload_n 0, 1) := by decide +kernel
theorem dX7_seeds_100 : decode cX7_seeds 100 = .ok (.getfield 70, 3) := by decide +kernel
theorem dX7_seeds_103 : decode cX7_seeds 103 = .ok (.irem, 1) := by decide +kernel
theorem dX7_seeds_104 : decode cX7_seeds 104 = .ok (.istore 7, 2) := by decide +kernel
theorem dX7_seeds_106 : decode cX7_seeds 106 = .ok (.iload 6, 2) := by decide +kernel
theorem dX7_seeds_108 : decode cX7_seeds 108 = .ok (.iload 7, 2) := by decide +kernel
theorem dX7_seeds_110 : decode cX7_seeds 110 = .ok (.if_icmp .eq 22, 3) := by decide +kernel
theorem dX7_seeds_113 : decode cX7_seeds 113 = .ok (.aload_n 0, 1) := by decide +kernel
theorem dX7_seeds_114 : decode cX7_seeds 114 = .ok (.iload 6, 2) := by decide +kernel
theorem dX7_seeds_116 : decode cX7_seeds 116 = .ok (.iload 7, 2) := by decide +kernel
theorem dX7_seeds_118 : decode cX7_seeds 118 = .ok (.invokevirtual 171, 3) := by decide +kernel
theorem dX7_seeds_121 : decode cX7_seeds 121 = .ok (.ifCond .eq 11, 3) := by decide +kernel
theorem dX7_seeds_124 : decode cX7_seeds 124 = .ok (.aload_n 0, 1) := by decide +kernel
theorem dX7_seeds_125 : decode cX7_seeds 125 = .ok (.iload 6, 2) := by decide +kernel
theorem dX7_seeds_127 : decode cX7_seeds 127 = .ok (.iload 7, 2) := by decide +kernel
theorem dX7_seeds_129 : decode cX7_seeds 129 = .ok (.invokevirtual 234, 3) := by decide +kernel
theorem dX7_seeds_132 : decode cX7_seeds 132 = .ok (.iinc 5 1, 3) := by decide +kernel
theorem dX7_seeds_135 : decode cX7_seeds 135 = .ok (.goto (-91), 3) := by decide +kernel
theorem dX7_seeds_138 : decode cX7_seeds 138 = .ok (.aload_n 0, 1) := by decide +kernel
theorem dX7_seeds_139 : decode cX7_seeds 139 = .ok (.invokevirtual 148, 3) := by decide +kernel
theorem dX7_seeds_142 : decode cX7_seeds 142 = .ok (.istore 5, 2) := by decide +kernel
theorem dX7_seeds_144 : decode cX7_seeds 144 = .ok (.aload_n 0, 1) := by decide +kernel
theorem dX7_seeds_145 : decode cX7_seeds 145 = .ok (.iconst 1, 1) := by decide +kernel
theorem dX7_seeds_146 : decode cX7_seeds 146 = .ok (.iconst 0, 1) := by decide +kernel
theorem dX7_seeds_147 : decode cX7_seeds 147 = .ok (.invokevirtual 124, 3) := by decide +kernel
theorem dX7_seeds_150 : decode cX7_seeds 150 = .ok (.iload 5, 2) := by decide +kernel
theorem dX7_seeds_152 : decode cX7_seeds 152 = .ok (.ireturn, 1) := by decide +kernel
set_option maxRecDepth 20000 in
theorem ggX7_count_X7_isIn : GoodIn wsX7_count wsX7_isIn := goodIn_r _ [10] (by decide +kernel) (by decide +kernel)
set_option maxRecDepth 20000 in
theorem gX7_count_X7_isIn : GoodIn wsX7_count (va_wsS RX7 99 yX7_isIn wsX7_isIn) := goodIn_app (goodIn_of _ (by decide +kernel)) ggX7_count_X7_isIn
set_option maxRecDepth 20000 in
theorem ggX7_count_X7_pairsDanced : GoodIn wsX7_count wsX7_pairsDanced := goodIn_r _ [14, 2, 15, 16, 17, 9, 18, 41, 42, 43, 44, 45, 46, 47, 48, 49, 50, 51, 52, 53, 54, 55, 56, 57, 58, 59, 60, 61, 62, 63, 64, 65, 66, 67, 68, 69, 70, 71, 72, 73] (by decide +kernel) (by decide +kernel)
set_option maxRecDepth 20000 in
theorem gX7_count_X7_pairsDanced : GoodIn wsX7_count (wsV RX7 148 RX7 yX7_pairsDanced wsX7_pairsDanced) := goodIn_app (goodIn_of _ (by decide +kernel)) ggX7_count_X7_pairsDanced
set_option maxRecDepth 20000 in
theorem ggX7_count_X7_mayDance : GoodIn wsX7_count wsX7_mayDance := goodIn_r _ [22, 3, 23, 24, 25, 9, 26, 15, 27, 28, 29, 30, 31, 32, 33, 34, 35, 36, 2, 37, 38, 39, 40, 4, 16, 17, 18, 41, 42, 43, 44, 45, 46, 47, 48, 49, 50, 51, 52, 53, 54, 55, 56, 57, 58, 59, 60, 61, 62, 63, 64, 65, 66, 67, 68, 69, 70, 71, 72, 73] (by decide +kernel) (by decide +kernel)
set_option maxRecDepth 20000 in
theorem gX7_count_X7_mayDance : GoodIn wsX7_count (wsV RX7 171 RX7 yX7_mayDance wsX7_mayDance) := goodIn_app (goodIn_of _ (by decide +kernel)) ggX7_count_X7_mayDance
theorem dX7_count_0 : decode cX7_count 0 = .ok (.iload_n 1, 1) := by decide +kernel
theorem dX7_count_1 : decode cX7_count 1 = .ok (.bipush 11, 2) := by decide +kernel
theorem dX7_count_3 : decode cX7_count 3 = .ok (.bipush 16, 2) := by decide +kernel
theorem dX7_count_5 : decode cX7_count 5 = .ok (.invokestatic 99, 3) := by decide +kernel
theorem dX7_count_8 : decode cX7_count 8 = .ok (.ifCond .eq 13, 3) := by decide +kernel
theorem dX7_count_11 : decode cX7_count 11 = .ok (.aload_n 0, 1) := by decide +kernel
theorem dX7_count_12 : decode cX7_count 12 = .ok (.getfield 7, 3) := by decide +kernel
theorem dX7_count_15 : decode cX7_count 15 = .ok (.iload_n 1, 1) := by decide +kernel
theorem dX7_count_16 : decode cX7_count 16 = .ok (.bipush 10, 2) := by decide +kernel
theorem dX7_count_18 : decode cX7_count 18 = .ok (.isub, 1) := by decide +kernel
theorem dX7_count_19 : decode cX7_count 19 = .ok (.iaload, 1) := by decide +kernel
theorem dX7_count_20 : decode cX7_count 20 = .ok (.ireturn, 1) := by decide +kernel
theorem dX7_count_21 : decode cX7_count 21 = .ok (.iconst 0, 1) := by decide +kernel
theorem dX7_count_22 : decode cX7_count 22 = .ok (.istore_n 2, 1) := by decide +kernel
theorem dX7_count_23 : decode cX7_count 23 = .ok (.iload_n 1, 1) := by decide +kernel
theorem dX7_count_24 : decode cX7_count 24 = .ok (.tableswitch 147 0 6 #[44, 49, 54, 105, 110, 137, 142], 44) := by decide +kernel
theorem dX7_count_68 : decode cX7_count 68 = .ok (.aload_n 0, 1) := by decide +kernel
theorem dX7_count_69 : decode cX7_count 69 = .ok (.getfield 70, 3) := by decide +kernel
theorem dX7_count_72 : decode cX7_count 72 = .ok (.ireturn, 1) := by decide +kernel
theorem dX7_count_73 : decode cX7_count 73 = .ok (.aload_n 0, 1) := by decide +kernel
theorem dX7_count_74 : decode cX7_count 74 = .ok (.invokevirtual 148, 3) := by decide +kernel
theorem dX7_count_77 : decode cX7_count 77 = .ok (.ireturn, 1) := by decide +kernel
theorem dX7_count_78 : decode cX7_count 78 = .ok (.iconst 0, 1) := by decide +kernel
theorem dX7_count_79 : decode cX7_count 79 = .ok (.istore_n 3, 1) := by decide +kernel
theorem dX7_count_80 : decode cX7_count 80 = .ok (.iload_n 3, 1) := by decide +kernel
theorem dX7_count_81 : decode cX7_count 81 = .ok (.aload_n 0, 1) := by decide +kernel
theorem dX7_count_82 : decode cX7_count 82 = .ok (.getfield 70, 3) := by decide +kernel
theorem dX7_count_85 : decode cX7_count 85 = .ok (.if_icmp .ge 42, 3) := by decide +kernel
theorem dX7_count_88 : decode cX7_count 88 = .ok (.iconst 0, 1) := by decide +kernel
theorem dX7_count_89 : decode cX7_count 89 = .ok (.istore 4, 2) := by decide +kernel
theorem dX7_count_91 : decode cX7_count 91 = .ok (.iload 4, 2) := by decide +kernel
theorem dX7_count_93 : decode cX7_count 93 = .ok (.iload_n 3, 1) := by decide +kernel
theorem dX7_count_94 : decode cX7_count 94 = .ok (.if_icmp .ge 27, 3) := by decide +kernel
theorem dX7_count_97 : decode cX7_count 97 = .ok (.iload_n 2, 1) := by decide +kernel
theorem dX7_count_98 : decode cX7_count 98 = .ok (.aload_n 0, 1) := by decide +kernel
theorem dX7_count_99 : decode cX7_count 99 = .ok (.iload_n 3, 1) := by decide +kernel
theorem dX7_count_100 : decode cX7_count 100 = .ok (.iload 4, 2) := by decide +kernel
theorem dX7_count_102 : decode cX7_count 102 = .ok (.invokevirtual 171, 3) := by decide +kernel
theorem dX7_count_105 : decode cX7_count 105 = .ok (.ifCond .eq 7, 3) := by decide +kernel
theorem dX7_count_108 : decode cX7_count 108 = .ok (.iconst 1, 1) := by decide +kernel
theorem dX7_count_109 : decode cX7_count 109 = .ok (.goto 4, 3) := by decide +kernel
theorem dX7_count_112 : decode cX7_count 112 = .ok (.iconst 0, 1) := by decide +kernel
theorem dX7_count_113 : decode cX7_count 113 = .ok (.iadd, 1) := by decide +kernel
theorem dX7_count_114 : decode cX7_count 114 = .ok (.istore_n 2, 1) := by decide +kernel
theorem dX7_count_115 : decode cX7_count 115 = .ok (.iinc 4 1, 3) := by decide +kernel
theorem dX7_count_118 : decode cX7_count 118 = .ok (.goto (-27), 3) := by decide +kernel
theorem dX7_count_121 : decode cX7_count 121 = .ok (.iinc 3 1, 3) := by decide +kernel
theorem dX7_count_124 : decode cX7_count 124 = .ok (.goto (-44), 3) := by decide +kernel
theorem dX7_count_127 : decode cX7_count 127 = .ok (.iload_n 2, 1) := by decide +kernel
theorem dX7_count_128 : decode cX7_count 128 = .ok (.ireturn, 1) := by decide +kernel
theorem dX7_count_129 : decode cX7_count 129 = .ok (.aload_n 0, 1) := by decide +kernel
theorem dX7_count_130 : decode cX7_count 130 = .ok (.getfield 109, 3) := by decide +kernel
theorem dX7_count_133 : decode cX7_count 133 = .ok (.ireturn, 1) := by decide +kernel
theorem dX7_count_134 : decode cX7_count 134 = .ok (.iconst 0, 1) := by decide +kernel
theorem dX7_count_135 : decode cX7_count 135 = .ok (.istore_n 3, 1) := by decide +kernel
theorem dX7_count_136 : decode cX7_count 136 = .ok (.iload_n 3, 1) := by decide +kernel
theorem dX7_count_137 : decode cX7_count 137 = .ok (.aload_n 0, 1) := by decide +kernel
theorem dX7_count_138 : decode cX7_count 138 = .ok (.getfield 70, 3) := by decide +kernel
theorem dX7_count_141 : decode cX7_count 141 = .ok (.if_icmp .ge 18, 3) := by decide +kernel
theorem dX7_count_144 : decode cX7_count 144 = .ok (.iload_n 2, 1) := by decide +kernel
theorem dX7_count_145 : decode cX7_count 145 = .ok (.aload_n 0, 1) := by decide +kernel
theorem dX7_count_146 : decode cX7_count 146 = .ok (.getfield 19, 3) := by decide +kernel
theorem dX7_count_149 : decode cX7_count 149 = .ok (.iload_n 3, 1) := by decide +kernel
theorem dX7_count_150 : decode cX7_count 150 = .ok (.iaload, 1) := by decide +kernel
theorem dX7_count_151 : decode cX7_count 151 = .ok (.iadd, 1) := by decide +kernel
theorem dX7_count_152 : decode cX7_count 152 = .ok (.istore_n 2, 1) := by decide +kernel
theorem dX7_count_153 : decode cX7_count 153 = .ok (.iinc 3 1, 3) := by decide +kernel
theorem dX7_count_156 : decode cX7_count 156 = .ok (.goto (-20), 3) := by decide +kernel
theorem dX7_count_159 : decode cX7_count 159 = .ok (.iload_n 2, 1) := by decide +kernel
theorem dX7_count_160 : decode cX7_count 160 = .ok (.ireturn, 1) := by decide +kernel
theorem dX7_count_161 : decode cX7_count 161 = .ok (.aload_n 0, 1) := by decide +kernel
theorem dX7_count_162 : decode cX7_count 162 = .ok (.getfield 86, 3) := by decide +kernel
theorem dX7_count_165 : decode cX7_count 165 = .ok (.ireturn, 1) := by decide +kernel
theorem dX7_count_166 : decode cX7_count 166 = .ok (.aload_n 0, 1) := by decide +kernel
theorem dX7_count_167 : decode cX7_count 167 = .ok (.getfield 231, 3) := by decide +kernel
theorem dX7_count_170 : decode cX7_count 170 = .ok (.ireturn, 1) := by decide +kernel
theorem dX7_count_171 : decode cX7_count 171 = .ok (.bipush (-9), 2) := by decide +kernel
theorem dX7_count_173 : decode cX7_count 173 = .ok (.ireturn, 1) := by decide +kernel
theorem dJ6_bitCount_0f7a4_0 : decode cJ6_bitCount_0f7a4 0 = .ok (.iload_n 0, 1) := by decide +kernel
theorem dJ6_bitCount_0f7a4_1 : decode cJ6_bitCount_0f7a4 1 = .ok (.iload_n 0, 1) := by decide +kernel
theorem dJ6_bitCount_0f7a4_2 : decode cJ6_bitCount_0f7a4 2 = .ok (.iconst 1, 1) := by decide +kernel
theorem dJ6_bitCount_0f7a4_3 : decode cJ6_bitCount_0f7a4 3 = .ok (.iushr, 1) := by decide +kernel
theorem dJ6_bitCount_0f7a4_4 : decode cJ6_bitCount_0f7a4 4 = .ok (.ldc_w 265, 3) := by decide +kernel
theorem dJ6_bitCount_0f7a4_7 : decode cJ6_bitCount_0f7a4 7 = .ok (.iand, 1) := by decide +kernel
theorem dJ6_bitCount_0f7a4_8 : decode cJ6_bitCount_0f7a4 8 = .ok (.isub, 1) := by decide +kernel
theorem dJ6_bitCount_0f7a4_9 : decode cJ6_bitCount_0f7a4 9 = .ok (.istore_n 0, 1) := by decide +kernel
theorem dJ6_bitCount_0f7a4_10 : decode cJ6_bitCount_0f7a4 10 = .ok (.iload_n 0, 1) := by decide +kernel
theorem dJ6_bitCount_0f7a4_11 : decode cJ6_bitCount_0f7a4 11 = .ok (.ldc_w 266, 3) := by decide +kernel
theorem dJ6_bitCount_0f7a4_14 : decode cJ6_bitCount_0f7a4 14 = .ok (.iand, 1) := by decide +kernel
theorem dJ6_bitCount_0f7a4_15 : decode cJ6_bitCount_0f7a4 15 = .ok (.iload_n 0, 1) := by decide +kernel
theorem dJ6_bitCount_0f7a4_16 : decode cJ6_bitCount_0f7a4 16 = .ok (.iconst 2, 1) := by decide +kernel
theorem dJ6_bitCount_0f7a4_17 : decode cJ6_bitCount_0f7a4 17 = .ok (.iushr, 1) := by decide +kernel
theorem dJ6_bitCount_0f7a4_18 : decode cJ6_bitCount_0f7a4 18 = .ok (.ldc_w 266, 3) := by decide +kernel
theorem dJ6_bitCount_0f7a4_21 : decode cJ6_bitCount_0f7a4 21 = .ok (.iand, 1) := by decide +kernel
theorem dJ6_bitCount_0f7a4_22 : decode cJ6_bitCount_0f7a4 22 = .ok (.iadd, 1) := by decide +kernel
theorem dJ6_bitCount_0f7a4_23 : decode cJ6_bitCount_0f7a4 23 = .ok (.istore_n 0, 1) := by decide +kernel
theorem dJ6_bitCount_0f7a4_24 : decode cJ6_bitCount_0f7a4 24 = .ok (.iload_n 0, 1) := by decide +kernel
theorem dJ6_bitCount_0f7a4_25 : decode cJ6_bitCount_0f7a4 25 = .ok (.iload_n 0, 1) := by decide +kernel
theorem dJ6_bitCount_0f7a4_26 : decode cJ6_bitCount_0f7a4 26 = .ok (.iconst 4, 1) := by decide +kernel
theorem dJ6_bitCount_0f7a4_27 : decode cJ6_bitCount_0f7a4 27 = .ok (.iushr, 1) := by decide +kernel
theorem dJ6_bitCount_0f7a4_28 : decode cJ6_bitCount_0f7a4 28 = .ok (.iadd, 1) := by decide +kernel
theorem dJ6_bitCount_0f7a4_29 : decode cJ6_bitCount_0f7a4 29 = .ok (.ldc_w 267, 3) := by decide +kernel
theorem dJ6_bitCount_0f7a4_32 : decode cJ6_bitCount_0f7a4 32 = .ok (.iand, 1) := by decide +kernel
theorem dJ6_bitCount_0f7a4_33 : decode cJ6_bitCount_0f7a4 33 = .ok (.istore_n 0, 1) := by decide +kernel
theorem dJ6_bitCount_0f7a4_34 : decode cJ6_bitCount_0f7a4 34 = .ok (.iload_n 0, 1) := by decide +kernel
theorem dJ6_bitCount_0f7a4_35 : decode cJ6_bitCount_0f7a4 35 = .ok (.iload_n 0, 1) := by decide +kernel
theorem dJ6_bitCount_0f7a4_36 : decode cJ6_bitCount_0f7a4 36 = .ok (.bipush 8, 2) := by decide +kernel
theorem dJ6_bitCount_0f7a4_38 : decode cJ6_bitCount_0f7a4 38 = .ok (.iushr, 1) := by decide +kernel
theorem dJ6_bitCount_0f7a4_39 : decode cJ6_bitCount_0f7a4 39 = .ok (.iadd, 1) := by decide +kernel
theorem dJ6_bitCount_0f7a4_40 : decode cJ6_bitCount_0f7a4 40 = .ok (.istore_n 0, 1) := by decide +kernel
theorem dJ6_bitCount_0f7a4_41 : decode cJ6_bitCount_0f7a4 41 = .ok (.iload_n 0, 1) := by decide +kernel
theorem dJ6_bitCount_0f7a4_42 : decode cJ6_bitCount_0f7a4 42 = .ok (.iload_n 0, 1) := by decide +kernel
theorem dJ6_bitCount_0f7a4_43 : decode cJ6_bitCount_0f7a4 43 = .ok (.bipush 16, 2) := by decide +kernel
theorem dJ6_bitCount_0f7a4_45 : decode cJ6_bitCount_0f7a4 45 = .ok (.iushr, 1) := by decide +kernel
theorem dJ6_bitCount_0f7a4_46 : decode cJ6_bitCount_0f7a4 46 = .ok (.iadd, 1) := by decide +kernel
theorem dJ6_bitCount_0f7a4_47 : decode cJ6_bitCount_0f7a4 47 = .ok (.istore_n 0, 1) := by decide +kernel
theorem dJ6_bitCount_0f7a4_48 : decode cJ6_bitCount_0f7a4 48 = .ok (.iload_n 0, 1) := by decide +kernel
theorem dJ6_bitCount_0f7a4_49 : decode cJ6_bitCount_0f7a4 49 = .ok (.bipush 63, 2) := by decide +kernel
theorem dJ6_bitCount_0f7a4_51 : decode cJ6_bitCount_0f7a4 51 = .ok (.iand, 1) := by decide +kernel
theorem dJ6_bitCount_0f7a4_52 : decode cJ6_bitCount_0f7a4 52 = .ok (.ireturn, 1) := by decide +kernel
theorem dJ9_max_7cf53_0 : decode cJ9_max_7cf53 0 = .ok (.iload_n 0, 1) := by decide +kernel
theorem dJ9_max_7cf53_1 : decode cJ9_max_7cf53 1 = .ok (.iload_n 1, 1) := by decide +kernel
theorem dJ9_max_7cf53_2 : decode cJ9_max_7cf53 2 = .ok (.if_icmp .lt 7, 3) := by decide +kernel
theorem dJ9_max_7cf53_5 : decode cJ9_max_7cf53 5 = .ok (.iload_n 0, 1) := by decide +kernel
theorem dJ9_max_7cf53_6 : decode cJ9_max_7cf53 6 = .ok (.goto 4, 3) := by decide +kernel
theorem dJ9_max_7cf53_9 : decode cJ9_max_7cf53 9 = .ok (.iload_n 1, 1) := by decide +kernel
theorem dJ9_max_7cf53_10 : decode cJ9_max_7cf53 10 = .ok (.ireturn, 1) := by decide +kernel
theorem dJ9_min_7cf53_0 : decode cJ9_min_7cf53 0 = .ok (.iload_n 0, 1) := by decide +kernel
theorem dJ9_min_7cf53_1 : decode cJ9_min_7cf53 1 = .ok (.iload_n 1, 1) := by decide +kernel
theorem dJ9_min_7cf53_2 : decode cJ9_min_7cf53 2 = .ok (.if_icmp .gt 7, 3) := by decide +kernel
theorem dJ9_min_7cf53_5 : decode cJ9_min_7cf53 5 = .ok (.iload_n 0, 1) := by decide +kernel
theorem dJ9_min_7cf53_6 : decode cJ9_min_7cf53 6 = .ok (.goto 4, 3) := by decide +kernel
theorem dJ9_min_7cf53_9 : decode cJ9_min_7cf53 9 = .ok (.iload_n 1, 1) := by decide +kernel
theorem dJ9_min_7cf53_10 : decode cJ9_min_7cf53 10 = .ok (.ireturn, 1) := by decide +kernel
set_option maxRecDepth 20000 in
theorem ggL_law_X6_init : GoodIn wsL_law wsX6_init := goodIn_r _ [8, 9, 10, 11, 12, 13, 14, 15, 16, 17, 18, 19, 20, 21, 22, 23, 24, 25, 26, 27, 28, 29, 30, 31, 32, 33, 34, 35, 36, 37, 38, 39, 40, 41, 42, 43, 44, 45, 46, 47, 48, 49, 50, 51, 52, 53, 54, 55, 56, 57, 58, 59, 60, 61, 62, 63, 64, 65, 66, 67, 68, 69, 70, 71, 72, 73, 74, 75, 76, 77, 78, 79, 80, 81, 82, 83, 84, 85, 86, 87, 88, 89, 90, 91, 930, 931, 932, 933, 934, 935, 889, 890, 891, 892, 893, 894, 895, 896, 936, 937, 938, 939, 940, 941, 942, 943, 944, 945, 946, 947, 948, 949, 950, 951, 952] (by decide +kernel) (by decide +kernel)
set_option maxRecDepth 20000 in
theorem gL_law_X6_init : GoodIn wsL_law (wsX6_init) := ggL_law_X6_init
set_option maxRecDepth 20000 in
theorem ggL_law_X7_init : GoodIn wsL_law wsX7_init := goodIn_r _ [94, 95, 10, 11, 33, 96, 97, 98, 99, 100, 101, 102, 103, 104, 105, 106, 107, 108, 109, 110, 111, 112, 113, 114, 115, 897, 898, 899, 900, 901, 902, 903, 904, 905, 906, 907, 908, 909, 910, 911, 912, 913, 914, 915, 916, 917, 918, 919, 920, 921, 922, 923, 924, 925, 926, 927, 928, 929] (by decide +kernel) (by decide +kernel)
set_option maxRecDepth 20000 in
theorem gL_law_X7_init : GoodIn wsL_law (wsX7_init) := ggL_law_X7_init
set_option maxRecDepth 20000 in
theorem ggL_law_X6_feed : GoodIn wsL_law wsX6_feed := goodIn_r _ [119, 20, 120, 121, 122, 123, 2, 124, 34, 125, 126, 127, 19, 128, 50, 51, 889, 890, 891, 892, 893, 894, 895, 896, 936, 937, 938] (by decide +kernel) (by decide +kernel)
set_option maxRecDepth 20000 in
theorem gL_law_X6_feed : GoodIn wsL_law (wsV RL 13 RX6 yX6_feed wsX6_feed) := goodIn_app (goodIn_of _ (by decide +kernel)) ggL_law_X6_feed
set_option maxRecDepth 20000 in
theorem ggL_law_X7_feed : GoodIn wsL_law wsX7_feed := goodIn_r _ [132, 133, 101, 134, 135, 5, 136, 137, 138, 139, 140, 96, 897, 898, 899, 900, 901, 902, 903, 904, 905, 906, 907, 908, 909, 910, 911, 912, 913, 914, 915, 916, 917, 918, 919, 920, 921, 922, 923, 924, 925, 926, 927, 928, 929] (by decide +kernel) (by decide +kernel)
set_option maxRecDepth 20000 in
theorem gL_law_X7_feed : GoodIn wsL_law (wsV RL 17 RX7 yX7_feed wsX7_feed) := goodIn_app (goodIn_of _ (by decide +kernel)) ggL_law_X7_feed
set_option maxRecDepth 20000 in
theorem ggL_law_X6_ball : GoodIn wsL_law wsX6_ball := goodIn_r _ [144, 20, 15, 145, 146, 147, 19, 148, 50, 53, 149, 150, 151, 152, 51, 153, 154, 155, 156, 157, 158, 159, 14, 160, 40, 41, 42, 43, 44, 45, 161, 162, 163, 164, 165, 166, 167, 168, 169, 170, 171, 172, 173, 174, 175, 176, 177, 178, 179, 180, 181, 182, 183, 184, 185, 186, 187, 188, 189, 2, 190, 889, 890, 891, 892, 893, 894, 895, 896, 936, 937, 938, 930, 931, 932, 933, 934, 935] (by decide +kernel) (by decide +kernel)
set_option maxRecDepth 20000 in
theorem gL_law_X6_ball : GoodIn wsL_law (wsV RL 18 RX6 yX6_ball wsX6_ball) := goodIn_app (goodIn_of _ (by decide +kernel)) ggL_law_X6_ball
set_option maxRecDepth 20000 in
theorem ggL_law_X7_ball : GoodIn wsL_law wsX7_ball := goodIn_r _ [194, 195, 196, 133, 103, 197, 198, 199, 5, 200, 102, 104, 105, 201, 202, 203, 204, 101, 205, 206, 207, 208, 209, 210, 211, 212, 213, 214, 215, 216, 217, 97, 98, 99, 100, 218, 219, 220, 221, 222, 223, 106, 224, 225, 226, 227, 228, 229, 230, 231, 232, 233, 234, 235, 236, 237, 238, 239, 240, 241, 242, 243, 897, 898, 899, 900, 901, 902, 903, 904, 905, 906, 907, 908, 909, 910, 911, 912, 913, 914, 915, 916, 917, 918, 919, 920, 921, 922, 923, 924, 925, 926, 927, 928, 929] (by decide +kernel) (by decide +kernel)
set_option maxRecDepth 20000 in
theorem gL_law_X7_ball : GoodIn wsL_law (wsV RL 22 RX7 yX7_ball wsX7_ball) := goodIn_app (goodIn_of _ (by decide +kernel)) ggL_law_X7_ball
set_option maxRecDepth 20000 in
theorem ggL_law_X6_dancer : GoodIn wsL_law wsX6_dancer := goodIn_r _ [247, 15, 248, 249, 250, 251, 252, 182, 183, 14, 184, 40, 121, 122, 123, 2, 124, 34, 253, 254, 255, 256, 257, 258, 259, 889, 890, 891, 892, 893, 894, 895, 896, 930, 931, 932, 933, 934, 935] (by decide +kernel) (by decide +kernel)
set_option maxRecDepth 20000 in
theorem gL_law_X6_dancer : GoodIn wsL_law (wsV RL 23 RX6 yX6_dancer wsX6_dancer) := goodIn_app (goodIn_of _ (by decide +kernel)) ggL_law_X6_dancer
set_option maxRecDepth 20000 in
theorem ggL_law_X7_dancer : GoodIn wsL_law wsX7_dancer := goodIn_r _ [263, 97, 98, 99, 100, 236, 237, 238, 5, 239, 218, 137, 138, 139, 140, 96, 264, 265, 266, 897, 898, 899, 900, 901, 902, 903, 904, 905, 906, 907, 908, 909, 910, 911, 912, 913, 914, 915, 916, 917, 918, 919, 920, 921, 922, 923, 924, 925, 926, 927, 928, 929] (by decide +kernel) (by decide +kernel)
set_option maxRecDepth 20000 in
theorem gL_law_X7_dancer : GoodIn wsL_law (wsV RL 27 RX7 yX7_dancer wsX7_dancer) := goodIn_app (goodIn_of _ (by decide +kernel)) ggL_law_X7_dancer
set_option maxRecDepth 20000 in
theorem ggL_law_X6_law : GoodIn wsL_law wsX6_law := goodIn_r _ [270, 15, 271, 272, 189, 2, 190, 121, 122, 123, 124, 34, 889, 890, 891, 892, 893, 894, 895, 896, 930, 931, 932, 933, 934, 935] (by decide +kernel) (by decide +kernel)
set_option maxRecDepth 20000 in
theorem gL_law_X6_law : GoodIn wsL_law (wsV RL 28 RX6 yX6_law wsX6_law) := goodIn_app (goodIn_of _ (by decide +kernel)) ggL_law_X6_law
set_option maxRecDepth 20000 in
theorem ggL_law_X7_law : GoodIn wsL_law wsX7_law := goodIn_r _ [276, 219, 209, 210, 5, 211, 137, 138, 139, 140, 96, 897, 898, 899, 900, 901, 902, 903, 904, 905, 906, 907, 908, 909, 910, 911, 912, 913, 914, 915, 916, 917, 918, 919, 920, 921, 922, 923, 924, 925, 926, 927, 928, 929] (by decide +kernel) (by decide +kernel)
set_option maxRecDepth 20000 in
theorem gL_law_X7_law : GoodIn wsL_law (wsV RL 31 RX7 yX7_law wsX7_law) := goodIn_app (goodIn_of _ (by decide +kernel)) ggL_law_X7_law
set_option maxRecDepth 20000 in
theorem ggL_law_X6_danced : GoodIn wsL_law wsX6_danced := goodIn_r _ [280, 15, 281, 178, 179, 14, 180, 181, 182, 183, 184, 40, 121, 122, 123, 2, 124, 34, 282, 283, 284, 285, 45, 286, 287, 288, 289, 290, 889, 890, 891, 892, 893, 894, 895, 896, 930, 931, 932, 933, 934, 935] (by decide +kernel) (by decide +kernel)
set_option maxRecDepth 20000 in
theorem gL_law_X6_danced : GoodIn wsL_law (wsV RL 32 RX6 yX6_danced wsX6_danced) := goodIn_app (goodIn_of _ (by decide +kernel)) ggL_law_X6_danced
set_option maxRecDepth 20000 in
theorem ggL_law_X7_danced : GoodIn wsL_law wsX7_danced := goodIn_r _ [294, 232, 233, 234, 5, 235, 236, 237, 238, 239, 218, 137, 138, 139, 140, 96, 295, 296, 297, 298, 100, 897, 898, 899, 900, 901, 902, 903, 904, 905, 906, 907, 908, 909, 910, 911, 912, 913, 914, 915, 916, 917, 918, 919, 920, 921, 922, 923, 924, 925, 926, 927, 928, 929] (by decide +kernel) (by decide +kernel)
set_option maxRecDepth 20000 in
theorem gL_law_X7_danced : GoodIn wsL_law (wsV RL 35 RX7 yX7_danced wsX7_danced) := goodIn_app (goodIn_of _ (by decide +kernel)) ggL_law_X7_danced
set_option maxRecDepth 20000 in
theorem ggL_law_X6_bringers : GoodIn wsL_law wsX6_bringers := goodIn_r _ [302, 15, 281, 178, 179, 14, 180, 181, 182, 183, 184, 40, 121, 122, 123, 2, 124, 34, 303, 304, 305, 306, 45, 41, 307, 308, 309, 310, 286, 287, 311, 312, 313, 314, 44, 43, 42, 315, 316, 317, 318, 254, 255, 256, 257, 258, 259, 889, 890, 891, 892, 893, 894, 895, 896, 930, 931, 932, 933, 934, 935] (by decide +kernel) (by decide +kernel)
set_option maxRecDepth 20000 in
theorem gL_law_X6_bringers : GoodIn wsL_law (wsV RL 36 RX6 yX6_bringers wsX6_bringers) := goodIn_app (goodIn_of _ (by decide +kernel)) ggL_law_X6_bringers
set_option maxRecDepth 20000 in
theorem ggL_law_X7_bringers : GoodIn wsL_law wsX7_bringers := goodIn_r _ [322, 232, 233, 234, 5, 235, 236, 237, 238, 239, 218, 323, 324, 325, 326, 219, 327, 328, 329, 330, 99, 98, 97, 100, 295, 296, 297, 298, 264, 265, 266, 137, 138, 139, 140, 96, 897, 898, 899, 900, 901, 902, 903, 904, 905, 906, 907, 908, 909, 910, 911, 912, 913, 914, 915, 916, 917, 918, 919, 920, 921, 922, 923, 924, 925, 926, 927, 928, 929] (by decide +kernel) (by decide +kernel)
set_option maxRecDepth 20000 in
theorem gL_law_X7_bringers : GoodIn wsL_law (wsV RL 39 RX7 yX7_bringers wsX7_bringers) := goodIn_app (goodIn_of _ (by decide +kernel)) ggL_law_X7_bringers
set_option maxRecDepth 20000 in
theorem ggL_law_X6_may : GoodIn wsL_law wsX6_may := goodIn_r _ [334, 15, 281, 178, 179, 14, 180, 181, 182, 183, 184, 40, 121, 122, 123, 2, 124, 34, 335, 336, 337, 338, 339, 340, 341, 342, 41, 343, 283, 284, 285, 45, 286, 287, 344, 304, 305, 306, 307, 308, 309, 310, 311, 312, 313, 314, 44, 43, 42, 315, 316, 317, 318, 254, 255, 256, 257, 258, 259, 345, 346, 347, 348, 288, 289, 290, 889, 890, 891, 892, 893, 894, 895, 896, 930, 931, 932, 933, 934, 935] (by decide +kernel) (by decide +kernel)
set_option maxRecDepth 20000 in
theorem gL_law_X6_may : GoodIn wsL_law (wsV RL 40 RX6 yX6_may wsX6_may) := goodIn_app (goodIn_of _ (by decide +kernel)) ggL_law_X6_may
set_option maxRecDepth 20000 in
theorem ggL_law_X7_may : GoodIn wsL_law wsX7_may := goodIn_r _ [352, 232, 233, 234, 5, 235, 236, 237, 238, 239, 218, 137, 138, 139, 140, 96, 353, 354, 355, 356, 219, 295, 296, 297, 298, 100, 357, 358, 359, 360, 97, 98, 323, 324, 325, 326, 327, 328, 329, 330, 99, 264, 265, 266, 897, 898, 899, 900, 901, 902, 903, 904, 905, 906, 907, 908, 909, 910, 911, 912, 913, 914, 915, 916, 917, 918, 919, 920, 921, 922, 923, 924, 925, 926, 927, 928, 929] (by decide +kernel) (by decide +kernel)
set_option maxRecDepth 20000 in
theorem gL_law_X7_may : GoodIn wsL_law (wsV RL 43 RX7 yX7_may wsX7_may) := goodIn_app (goodIn_of _ (by decide +kernel)) ggL_law_X7_may
set_option maxRecDepth 20000 in
theorem ggL_law_X6_dance : GoodIn wsL_law wsX6_dance := goodIn_r _ [364, 15, 281, 178, 179, 14, 180, 181, 182, 183, 184, 40, 121, 122, 123, 2, 124, 34, 365, 366, 367, 368, 339, 340, 341, 342, 41, 343, 283, 284, 285, 45, 286, 287, 344, 304, 305, 306, 307, 308, 309, 310, 311, 312, 313, 314, 44, 43, 42, 315, 316, 317, 318, 254, 255, 256, 257, 258, 259, 345, 346, 347, 348, 369, 370, 371, 372, 373, 374, 375, 376, 174, 175, 176, 177, 377, 378, 379, 380, 889, 890, 891, 892, 893, 894, 895, 896, 930, 931, 932, 933, 934, 935] (by decide +kernel) (by decide +kernel)
set_option maxRecDepth 20000 in
theorem gL_law_X6_dance : GoodIn wsL_law (wsV RL 44 RX6 yX6_dance wsX6_dance) := goodIn_app (goodIn_of _ (by decide +kernel)) ggL_law_X6_dance
set_option maxRecDepth 20000 in
theorem ggL_law_X7_dance : GoodIn wsL_law wsX7_dance := goodIn_r _ [384, 232, 233, 234, 5, 235, 236, 237, 238, 239, 218, 137, 138, 139, 140, 96, 353, 354, 355, 356, 219, 295, 296, 297, 298, 100, 357, 358, 359, 360, 97, 98, 323, 324, 325, 326, 327, 328, 329, 330, 99, 264, 265, 266, 385, 386, 387, 388, 389, 390, 391, 392, 393, 394, 395, 240, 241, 242, 243, 396, 397, 398, 399, 897, 898, 899, 900, 901, 902, 903, 904, 905, 906, 907, 908, 909, 910, 911, 912, 913, 914, 915, 916, 917, 918, 919, 920, 921, 922, 923, 924, 925, 926, 927, 928, 929] (by decide +kernel) (by decide +kernel)
set_option maxRecDepth 20000 in
theorem gL_law_X7_dance : GoodIn wsL_law (wsV RL 48 RX7 yX7_dance wsX7_dance) := goodIn_app (goodIn_of _ (by decide +kernel)) ggL_law_X7_dance
set_option maxRecDepth 20000 in
theorem ggL_law_X6_night : GoodIn wsL_law wsX6_night := goodIn_r _ [403, 15, 404, 405, 406, 14, 407, 40, 44, 889, 890, 891, 892, 893, 894, 895, 896, 930, 931, 932, 933, 934, 935] (by decide +kernel) (by decide +kernel)
set_option maxRecDepth 20000 in
theorem gL_law_X6_night : GoodIn wsL_law (wsV RL 49 RX6 yX6_night wsX6_night) := goodIn_app (goodIn_of _ (by decide +kernel)) ggL_law_X6_night
set_option maxRecDepth 20000 in
theorem ggL_law_X7_night : GoodIn wsL_law wsX7_night := goodIn_r _ [411, 218, 99, 897, 898, 899, 900, 901, 902, 903, 904, 905, 906, 907, 908, 909, 910, 911, 912, 913, 914, 915, 916, 917, 918, 919, 920, 921, 922, 923, 924, 925, 926, 927, 928, 929] (by decide +kernel) (by decide +kernel)
set_option maxRecDepth 20000 in
theorem gL_law_X7_night : GoodIn wsL_law (wsV RL 52 RX7 yX7_night wsX7_night) := goodIn_app (goodIn_of _ (by decide +kernel)) ggL_law_X7_night
set_option maxRecDepth 20000 in
theorem ggL_law_X6_ever : GoodIn wsL_law wsX6_ever := goodIn_r _ [415, 15, 24, 281, 178, 179, 14, 180, 181, 182, 183, 184, 40, 121, 122, 123, 2, 124, 34, 416, 417, 418, 23, 419, 420, 421, 422, 423, 60, 424, 425, 426, 62, 427, 428, 67, 429, 68, 69, 70, 71, 430, 73, 431, 432, 433, 434, 346, 347, 348, 42, 43, 435, 436, 437, 438, 439, 440, 441, 442, 72, 443, 444, 445, 446, 286, 287, 447, 448, 449, 450, 451, 308, 309, 310, 452, 254, 255, 256, 257, 258, 259, 453, 288, 289, 290, 889, 890, 891, 892, 893, 894, 895, 896, 930, 931, 932, 933, 934, 935, 939, 946, 947, 948, 949, 950, 951, 952] (by decide +kernel) (by decide +kernel)
set_option maxRecDepth 20000 in
theorem gL_law_X6_ever : GoodIn wsL_law (wsV RL 53 RX6 yX6_ever wsX6_ever) := goodIn_app (goodIn_of _ (by decide +kernel)) ggL_law_X6_ever
set_option maxRecDepth 20000 in
theorem ggL_law_X7_ever : GoodIn wsL_law wsX7_ever := goodIn_r _ [457, 219, 107, 232, 233, 234, 5, 235, 236, 237, 238, 239, 218, 137, 138, 139, 140, 96, 458, 459, 460, 461, 100, 109, 462, 295, 296, 297, 298, 463, 464, 465, 466, 108, 357, 358, 359, 360, 97, 98, 467, 468, 469, 470, 264, 265, 266, 897, 898, 899, 900, 901, 902, 903, 904, 905, 906, 907, 908, 909, 910, 911, 912, 913, 914, 915, 916, 917, 918, 919, 920, 921, 922, 923, 924, 925, 926, 927, 928, 929] (by decide +kernel) (by decide +kernel)
set_option maxRecDepth 20000 in
theorem gL_law_X7_ever : GoodIn wsL_law (wsV RL 56 RX7 yX7_ever wsX7_ever) := goodIn_app (goodIn_of _ (by decide +kernel)) ggL_law_X7_ever
set_option maxRecDepth 20000 in
theorem ggL_law_X6_round : GoodIn wsL_law wsX6_round := goodIn_r _ [474, 15, 24, 281, 178, 179, 14, 180, 181, 182, 183, 184, 40, 121, 122, 123, 2, 124, 34, 475, 476, 477, 23, 478, 60, 424, 425, 426, 62, 427, 428, 67, 429, 68, 69, 70, 71, 430, 73, 431, 432, 433, 434, 346, 347, 348, 42, 43, 453, 444, 445, 446, 286, 287, 479, 440, 441, 442, 72, 443, 447, 448, 449, 450, 451, 308, 309, 310, 452, 254, 255, 256, 257, 258, 259, 889, 890, 891, 892, 893, 894, 895, 896, 930, 931, 932, 933, 934, 935, 939, 946, 947, 948, 949, 950, 951, 952] (by decide +kernel) (by decide +kernel)
set_option maxRecDepth 20000 in
theorem gL_law_X6_round : GoodIn wsL_law (wsV RL 57 RX6 yX6_round wsX6_round) := goodIn_app (goodIn_of _ (by decide +kernel)) ggL_law_X6_round
set_option maxRecDepth 20000 in
theorem ggL_law_X7_round : GoodIn wsL_law wsX7_round := goodIn_r _ [483, 219, 109, 232, 233, 234, 5, 235, 236, 237, 238, 239, 218, 137, 138, 139, 140, 96, 458, 459, 460, 461, 107, 100, 462, 295, 296, 297, 298, 463, 464, 465, 466, 108, 357, 358, 359, 360, 97, 98, 467, 468, 469, 470, 264, 265, 266, 897, 898, 899, 900, 901, 902, 903, 904, 905, 906, 907, 908, 909, 910, 911, 912, 913, 914, 915, 916, 917, 918, 919, 920, 921, 922, 923, 924, 925, 926, 927, 928, 929] (by decide +kernel) (by decide +kernel)
set_option maxRecDepth 20000 in
theorem gL_law_X7_round : GoodIn wsL_law (wsV RL 60 RX7 yX7_round wsX7_round) := goodIn_app (goodIn_of _ (by decide +kernel)) ggL_law_X7_round
set_option maxRecDepth 20000 in
theorem ggL_law_X6_closed : GoodIn wsL_law wsX6_closed := goodIn_r _ [487, 24, 15, 271, 488, 489, 490, 23, 491, 60, 492, 424, 425, 426, 62, 427, 428, 67, 429, 68, 69, 70, 71, 430, 73, 431, 432, 433, 434, 346, 347, 14, 348, 42, 43, 435, 436, 437, 438, 439, 440, 441, 442, 72, 443, 444, 445, 446, 286, 2, 287, 447, 448, 449, 450, 451, 308, 309, 310, 452, 254, 255, 256, 257, 258, 259, 493, 494, 495, 496, 497, 498, 499, 500, 501, 420, 421, 422, 423, 502, 503, 504, 505, 40, 506, 507, 508, 509, 45, 121, 122, 123, 124, 34, 889, 890, 891, 892, 893, 894, 895, 896, 930, 931, 932, 933, 934, 935, 939, 946, 947, 948, 949, 950, 951, 952] (by decide +kernel) (by decide +kernel)
set_option maxRecDepth 20000 in
theorem gL_law_X6_closed : GoodIn wsL_law (wsV RL 61 RX6 yX6_closed wsX6_closed) := goodIn_app (goodIn_of _ (by decide +kernel)) ggL_law_X6_closed
set_option maxRecDepth 20000 in
theorem ggL_law_X7_closed : GoodIn wsL_law wsX7_closed := goodIn_r _ [513, 219, 462, 209, 210, 5, 211, 137, 138, 139, 140, 96, 458, 459, 460, 461, 218, 107, 100, 109, 295, 296, 297, 298, 463, 464, 465, 466, 108, 357, 358, 359, 360, 97, 98, 467, 468, 469, 470, 264, 265, 266, 514, 515, 516, 517, 897, 898, 899, 900, 901, 902, 903, 904, 905, 906, 907, 908, 909, 910, 911, 912, 913, 914, 915, 916, 917, 918, 919, 920, 921, 922, 923, 924, 925, 926, 927, 928, 929] (by decide +kernel) (by decide +kernel)
set_option maxRecDepth 20000 in
theorem gL_law_X7_closed : GoodIn wsL_law (wsV RL 64 RX7 yX7_closed wsX7_closed) := goodIn_app (goodIn_of _ (by decide +kernel)) ggL_law_X7_closed
set_option maxRecDepth 20000 in
theorem ggL_law_X6_opens : GoodIn wsL_law wsX6_opens := goodIn_r _ [521, 15, 24, 281, 178, 179, 14, 180, 181, 182, 183, 184, 40, 121, 122, 123, 2, 124, 34, 282, 283, 284, 285, 45, 286, 287, 522, 523, 524, 23, 525, 420, 421, 422, 423, 60, 424, 425, 426, 62, 427, 428, 67, 429, 68, 69, 70, 71, 430, 73, 431, 432, 433, 434, 346, 347, 348, 42, 43, 435, 436, 437, 438, 439, 440, 441, 442, 72, 443, 444, 445, 446, 447, 448, 449, 450, 451, 308, 309, 310, 452, 254, 255, 256, 257, 258, 259, 493, 494, 495, 496, 526, 527, 528, 529, 530, 531, 532, 533, 534, 535, 536, 537, 538, 539, 540, 541, 542, 543, 889, 890, 891, 892, 893, 894, 895, 896, 930, 931, 932, 933, 934, 935, 939, 946, 947, 948, 949, 950, 951, 952] (by decide +kernel) (by decide +kernel)
set_option maxRecDepth 20000 in
theorem gL_law_X6_opens : GoodIn wsL_law (wsV RL 65 RX6 yX6_opens wsX6_opens) := goodIn_app (goodIn_of _ (by decide +kernel)) ggL_law_X6_opens
set_option maxRecDepth 20000 in
theorem ggL_law_X7_opens : GoodIn wsL_law wsX7_opens := goodIn_r _ [547, 219, 232, 233, 234, 5, 235, 236, 237, 238, 239, 218, 137, 138, 139, 140, 96, 295, 296, 297, 298, 100, 458, 459, 460, 461, 107, 109, 462, 463, 464, 465, 466, 108, 357, 358, 359, 360, 97, 98, 467, 468, 469, 470, 264, 265, 266, 548, 549, 550, 551, 240, 241, 242, 243, 552, 553, 554, 555, 897, 898, 899, 900, 901, 902, 903, 904, 905, 906, 907, 908, 909, 910, 911, 912, 913, 914, 915, 916, 917, 918, 919, 920, 921, 922, 923, 924, 925, 926, 927, 928, 929] (by decide +kernel) (by decide +kernel)
set_option maxRecDepth 20000 in
theorem gL_law_X7_opens : GoodIn wsL_law (wsV RL 68 RX7 yX7_opens wsX7_opens) := goodIn_app (goodIn_of _ (by decide +kernel)) ggL_law_X7_opens
set_option maxRecDepth 20000 in
theorem ggL_law_X6_best : GoodIn wsL_law wsX6_best := goodIn_r _ [559, 24, 15, 560, 561, 562, 23, 563, 564, 565, 566, 14, 567, 568, 569, 570, 571, 540, 2, 541, 542, 543, 177, 178, 179, 180, 181, 182, 183, 184, 40, 343, 283, 284, 285, 45, 286, 287, 532, 533, 534, 535, 60, 424, 425, 426, 62, 427, 428, 67, 429, 68, 69, 70, 71, 430, 73, 431, 432, 433, 434, 346, 347, 348, 42, 43, 536, 537, 538, 539, 435, 436, 437, 438, 439, 440, 441, 442, 72, 443, 444, 445, 446, 447, 448, 449, 450, 451, 308, 309, 310, 452, 254, 255, 256, 257, 258, 259, 493, 494, 495, 496, 889, 890, 891, 892, 893, 894, 895, 896, 930, 931, 932, 933, 934, 935, 939, 946, 947, 948, 949, 950, 951, 952] (by decide +kernel) (by decide +kernel)
set_option maxRecDepth 20000 in
theorem gL_law_X6_best : GoodIn wsL_law (wsV RL 69 RX6 yX6_best wsX6_best) := goodIn_app (goodIn_of _ (by decide +kernel)) ggL_law_X6_best
set_option maxRecDepth 20000 in
theorem ggL_law_X7_best : GoodIn wsL_law wsX7_best := goodIn_r _ [575, 218, 295, 296, 297, 5, 298, 100, 548, 549, 550, 551, 219, 240, 241, 242, 243, 458, 459, 460, 461, 107, 109, 462, 463, 464, 465, 466, 108, 357, 358, 359, 360, 97, 98, 467, 468, 469, 470, 264, 265, 266, 552, 553, 554, 555, 897, 898, 899, 900, 901, 902, 903, 904, 905, 906, 907, 908, 909, 910, 911, 912, 913, 914, 915, 916, 917, 918, 919, 920, 921, 922, 923, 924, 925, 926, 927, 928, 929] (by decide +kernel) (by decide +kernel)
set_option maxRecDepth 20000 in
theorem gL_law_X7_best : GoodIn wsL_law (wsV RL 72 RX7 yX7_best wsX7_best) := goodIn_app (goodIn_of _ (by decide +kernel)) ggL_law_X7_best
set_option maxRecDepth 20000 in
theorem ggL_law_X6_fewest : GoodIn wsL_law wsX6_fewest := goodIn_r _ [579, 24, 15, 580, 581, 582, 23, 583, 420, 421, 422, 423, 60, 424, 425, 426, 62, 427, 428, 67, 429, 68, 69, 70, 71, 430, 73, 431, 432, 433, 434, 346, 347, 14, 348, 42, 43, 435, 436, 437, 438, 439, 440, 441, 442, 72, 443, 444, 445, 446, 286, 2, 287, 447, 448, 449, 450, 451, 308, 309, 310, 452, 254, 255, 256, 257, 258, 259, 584, 585, 586, 587, 588, 494, 495, 496, 589, 590, 591, 592, 593, 569, 570, 571, 540, 541, 542, 543, 177, 178, 179, 180, 181, 182, 183, 184, 40, 453, 594, 595, 596, 597, 536, 537, 538, 539, 598, 599, 600, 601, 121, 122, 123, 124, 34, 889, 890, 891, 892, 893, 894, 895, 896, 939, 930, 931, 932, 933, 934, 935, 946, 947, 948, 949, 950, 951, 952] (by decide +kernel) (by decide +kernel)
set_option maxRecDepth 20000 in
theorem gL_law_X6_fewest : GoodIn wsL_law (wsV RL 73 RX6 yX6_fewest wsX6_fewest) := goodIn_app (goodIn_of _ (by decide +kernel)) ggL_law_X6_fewest
set_option maxRecDepth 20000 in
theorem ggL_law_X7_fewest : GoodIn wsL_law wsX7_fewest := goodIn_r _ [605, 606, 209, 210, 5, 211, 137, 138, 139, 140, 96, 607, 608, 609, 610, 611, 110, 111, 612, 613, 614, 615, 219, 218, 458, 459, 460, 461, 107, 100, 109, 462, 295, 296, 297, 298, 463, 464, 465, 466, 108, 357, 358, 359, 360, 97, 98, 467, 468, 469, 470, 264, 265, 266, 616, 617, 618, 619, 240, 241, 242, 243, 620, 621, 622, 623, 624, 625, 626, 627, 552, 553, 554, 555, 897, 898, 899, 900, 901, 902, 903, 904, 905, 906, 907, 908, 909, 910, 911, 912, 913, 914, 915, 916, 917, 918, 919, 920, 921, 922, 923, 924, 925, 926, 927, 928, 929] (by decide +kernel) (by decide +kernel)
set_option maxRecDepth 20000 in
theorem gL_law_X7_fewest : GoodIn wsL_law (wsV RL 76 RX7 yX7_fewest wsX7_fewest) := goodIn_app (goodIn_of _ (by decide +kernel)) ggL_law_X7_fewest
set_option maxRecDepth 20000 in
theorem ggL_law_X6_wanted : GoodIn wsL_law wsX6_wanted := goodIn_r _ [631, 15, 28, 281, 178, 179, 14, 180, 181, 182, 183, 184, 40, 121, 122, 123, 2, 124, 34, 632, 633, 634, 27, 635, 80, 81, 79, 636, 283, 284, 285, 45, 286, 287, 637, 158, 159, 160, 41, 42, 43, 44, 638, 639, 640, 641, 642, 336, 337, 338, 339, 340, 341, 342, 343, 344, 304, 305, 306, 307, 308, 309, 310, 311, 312, 313, 314, 315, 316, 317, 318, 254, 255, 256, 257, 258, 259, 345, 346, 347, 348, 643, 565, 566, 567, 568, 569, 570, 571, 540, 541, 542, 543, 177, 644, 645, 646, 647, 648, 649, 370, 371, 372, 373, 374, 375, 376, 174, 175, 176, 889, 890, 891, 892, 893, 894, 895, 896, 930, 931, 932, 933, 934, 935, 940, 941, 942] (by decide +kernel) (by decide +kernel)
set_option maxRecDepth 20000 in
theorem gL_law_X6_wanted : GoodIn wsL_law (wsV RL 77 RX6 yX6_wanted wsX6_wanted) := goodIn_app (goodIn_of _ (by decide +kernel)) ggL_law_X6_wanted
set_option maxRecDepth 20000 in
theorem ggL_law_X7_wanted : GoodIn wsL_law wsX7_wanted := goodIn_r _ [653, 232, 233, 234, 5, 235, 236, 237, 238, 239, 218, 137, 138, 139, 140, 96, 295, 296, 297, 298, 100, 353, 354, 355, 356, 219, 357, 358, 359, 360, 97, 98, 323, 324, 325, 326, 327, 328, 329, 330, 99, 264, 265, 266, 654, 655, 656, 657, 212, 213, 214, 215, 216, 217, 220, 221, 222, 223, 106, 224, 225, 226, 227, 385, 386, 387, 388, 389, 390, 391, 392, 393, 394, 395, 240, 241, 242, 243, 658, 659, 660, 661, 897, 898, 899, 900, 901, 902, 903, 904, 905, 906, 907, 908, 909, 910, 911, 912, 913, 914, 915, 916, 917, 918, 919, 920, 921, 922, 923, 924, 925, 926, 927, 928, 929] (by decide +kernel) (by decide +kernel)
set_option maxRecDepth 20000 in
theorem gL_law_X7_wanted : GoodIn wsL_law (wsV RL 80 RX7 yX7_wanted wsX7_wanted) := goodIn_app (goodIn_of _ (by decide +kernel)) ggL_law_X7_wanted
set_option maxRecDepth 20000 in
theorem ggL_law_X6_off : GoodIn wsL_law wsX6_off := goodIn_r _ [665, 15, 24, 281, 178, 179, 14, 180, 181, 182, 183, 184, 40, 121, 122, 123, 2, 124, 34, 666, 667, 668, 23, 669, 670, 417, 418, 419, 420, 421, 422, 423, 60, 424, 425, 426, 62, 427, 428, 67, 429, 68, 69, 70, 71, 430, 73, 431, 432, 433, 434, 346, 347, 348, 42, 43, 435, 436, 437, 438, 439, 440, 441, 442, 72, 443, 444, 445, 446, 286, 287, 447, 448, 449, 450, 451, 308, 309, 310, 452, 254, 255, 256, 257, 258, 259, 453, 526, 527, 528, 529, 530, 531, 671, 672, 673, 674, 568, 569, 570, 571, 540, 541, 542, 543, 177, 343, 283, 284, 285, 45, 675, 676, 677, 678, 679, 680, 681, 682, 683, 684, 685, 686, 889, 890, 891, 892, 893, 894, 895, 896, 930, 931, 932, 933, 934, 935, 939, 946, 947, 948, 949, 950, 951, 952] (by decide +kernel) (by decide +kernel)
set_option maxRecDepth 20000 in
theorem gL_law_X6_off : GoodIn wsL_law (wsV RL 81 RX6 yX6_off wsX6_off) := goodIn_app (goodIn_of _ (by decide +kernel)) ggL_law_X6_off
set_option maxRecDepth 20000 in
theorem ggL_law_X7_off : GoodIn wsL_law wsX7_off := goodIn_r _ [690, 611, 110, 111, 232, 233, 234, 5, 235, 236, 237, 238, 239, 218, 137, 138, 139, 140, 96, 691, 692, 693, 694, 219, 107, 458, 459, 460, 461, 100, 109, 462, 295, 296, 297, 298, 463, 464, 465, 466, 108, 357, 358, 359, 360, 97, 98, 467, 468, 469, 470, 264, 265, 266, 616, 617, 618, 619, 552, 553, 554, 555, 240, 241, 242, 243, 897, 898, 899, 900, 901, 902, 903, 904, 905, 906, 907, 908, 909, 910, 911, 912, 913, 914, 915, 916, 917, 918, 919, 920, 921, 922, 923, 924, 925, 926, 927, 928, 929] (by decide +kernel) (by decide +kernel)
set_option maxRecDepth 20000 in
theorem gL_law_X7_off : GoodIn wsL_law (wsV RL 84 RX7 yX7_off wsX7_off) := goodIn_app (goodIn_of _ (by decide +kernel)) ggL_law_X7_off
set_option maxRecDepth 20000 in
theorem ggL_law_X6_worth : GoodIn wsL_law wsX6_worth := goodIn_r _ [698, 15, 24, 252, 182, 183, 14, 184, 40, 121, 122, 123, 2, 124, 34, 699, 700, 701, 23, 702, 60, 703, 420, 421, 422, 423, 424, 425, 426, 62, 427, 428, 67, 429, 68, 69, 70, 71, 430, 73, 431, 432, 433, 434, 346, 347, 348, 42, 43, 435, 436, 437, 438, 439, 440, 441, 442, 72, 443, 444, 445, 446, 286, 287, 447, 448, 449, 450, 451, 308, 309, 310, 452, 254, 255, 256, 257, 258, 259, 493, 494, 495, 496, 889, 890, 891, 892, 893, 894, 895, 896, 930, 931, 932, 933, 934, 935, 939, 946, 947, 948, 949, 950, 951, 952] (by decide +kernel) (by decide +kernel)
set_option maxRecDepth 20000 in
theorem gL_law_X6_worth : GoodIn wsL_law (wsV RL 85 RX6 yX6_worth wsX6_worth) := goodIn_app (goodIn_of _ (by decide +kernel)) ggL_law_X6_worth
set_option maxRecDepth 20000 in
theorem ggL_law_X7_worth : GoodIn wsL_law wsX7_worth := goodIn_r _ [707, 219, 236, 237, 238, 5, 239, 218, 137, 138, 139, 140, 96, 458, 459, 460, 461, 107, 100, 109, 462, 295, 296, 297, 298, 463, 464, 465, 466, 108, 357, 358, 359, 360, 97, 98, 467, 468, 469, 470, 264, 265, 266, 897, 898, 899, 900, 901, 902, 903, 904, 905, 906, 907, 908, 909, 910, 911, 912, 913, 914, 915, 916, 917, 918, 919, 920, 921, 922, 923, 924, 925, 926, 927, 928, 929] (by decide +kernel) (by decide +kernel)
set_option maxRecDepth 20000 in
theorem gL_law_X7_worth : GoodIn wsL_law (wsV RL 88 RX7 yX7_worth wsX7_worth) := goodIn_app (goodIn_of _ (by decide +kernel)) ggL_law_X7_worth
set_option maxRecDepth 20000 in
theorem ggL_law_X6_byLaw : GoodIn wsL_law wsX6_byLaw := goodIn_r _ [711, 24, 15, 272, 189, 2, 190, 121, 122, 123, 124, 34, 488, 489, 490, 23, 491, 60, 492, 424, 425, 426, 62, 427, 428, 67, 429, 68, 69, 70, 71, 430, 73, 431, 432, 433, 434, 346, 347, 14, 348, 42, 43, 435, 436, 437, 438, 439, 440, 441, 442, 72, 443, 444, 445, 446, 286, 287, 447, 448, 449, 450, 451, 308, 309, 310, 452, 254, 255, 256, 257, 258, 259, 493, 494, 495, 496, 889, 890, 891, 892, 893, 894, 895, 896, 939, 946, 947, 948, 949, 950, 951, 952, 930, 931, 932, 933, 934, 935] (by decide +kernel) (by decide +kernel)
set_option maxRecDepth 20000 in
theorem gL_law_X6_byLaw : GoodIn wsL_law (wsV RL 89 RX6 yX6_byLaw wsX6_byLaw) := goodIn_app (goodIn_of _ (by decide +kernel)) ggL_law_X6_byLaw
set_option maxRecDepth 20000 in
theorem ggL_law_X7_byLaw : GoodIn wsL_law wsX7_byLaw := goodIn_r _ [715, 209, 210, 5, 211, 458, 459, 460, 461, 218, 107, 100, 109, 462, 295, 296, 297, 298, 463, 464, 465, 466, 108, 357, 358, 359, 360, 97, 98, 467, 468, 469, 470, 264, 265, 266, 137, 138, 139, 140, 96, 897, 898, 899, 900, 901, 902, 903, 904, 905, 906, 907, 908, 909, 910, 911, 912, 913, 914, 915, 916, 917, 918, 919, 920, 921, 922, 923, 924, 925, 926, 927, 928, 929] (by decide +kernel) (by decide +kernel)
set_option maxRecDepth 20000 in
theorem gL_law_X7_byLaw : GoodIn wsL_law (wsV RL 92 RX7 yX7_byLaw wsX7_byLaw) := goodIn_app (goodIn_of _ (by decide +kernel)) ggL_law_X7_byLaw
set_option maxRecDepth 20000 in
theorem ggL_law_X6_row : GoodIn wsL_law wsX6_row := goodIn_r _ [719, 32, 720, 121, 122, 123, 2, 124, 34, 721, 722, 723, 31, 724, 87, 88, 889, 890, 891, 892, 893, 894, 895, 896, 943, 944, 945] (by decide +kernel) (by decide +kernel)
set_option maxRecDepth 20000 in
theorem gL_law_X6_row : GoodIn wsL_law (wsV RL 93 RX6 yX6_row wsX6_row) := goodIn_app (goodIn_of _ (by decide +kernel)) ggL_law_X6_row
set_option maxRecDepth 20000 in
theorem ggL_law_X7_row : GoodIn wsL_law wsX7_row := goodIn_r _ [728, 729, 112, 134, 135, 5, 136, 137, 138, 139, 140, 96, 897, 898, 899, 900, 901, 902, 903, 904, 905, 906, 907, 908, 909, 910, 911, 912, 913, 914, 915, 916, 917, 918, 919, 920, 921, 922, 923, 924, 925, 926, 927, 928, 929] (by decide +kernel) (by decide +kernel)
set_option maxRecDepth 20000 in
theorem gL_law_X7_row : GoodIn wsL_law (wsV RL 96 RX7 yX7_row wsX7_row) := goodIn_app (goodIn_of _ (by decide +kernel)) ggL_law_X7_row
set_option maxRecDepth 20000 in
theorem ggL_law_X6_judge : GoodIn wsL_law wsX6_judge := goodIn_r _ [733, 32, 15, 734, 735, 736, 31, 737, 90, 87, 88, 738, 158, 159, 14, 160, 40, 41, 42, 43, 44, 45, 739, 740, 741, 742, 177, 178, 179, 180, 181, 182, 183, 184, 339, 340, 341, 342, 343, 283, 284, 285, 286, 2, 287, 344, 304, 305, 306, 307, 308, 309, 310, 311, 312, 313, 314, 315, 316, 317, 318, 254, 255, 256, 257, 258, 259, 345, 346, 347, 348, 373, 374, 375, 743, 370, 371, 372, 376, 174, 175, 176, 889, 890, 891, 892, 893, 894, 895, 896, 943, 944, 945, 930, 931, 932, 933, 934, 935] (by decide +kernel) (by decide +kernel)
set_option maxRecDepth 20000 in
theorem gL_law_X6_judge : GoodIn wsL_law (wsV RL 97 RX6 yX6_judge wsX6_judge) := goodIn_app (goodIn_of _ (by decide +kernel)) ggL_law_X6_judge
set_option maxRecDepth 20000 in
theorem ggL_law_X7_judge : GoodIn wsL_law wsX7_judge := goodIn_r _ [747, 729, 113, 748, 749, 750, 5, 751, 112, 212, 213, 214, 215, 216, 217, 97, 98, 99, 100, 218, 219, 220, 221, 222, 223, 106, 224, 225, 226, 227, 232, 233, 234, 235, 236, 237, 238, 239, 353, 354, 355, 356, 295, 296, 297, 298, 357, 358, 359, 360, 323, 324, 325, 326, 327, 328, 329, 330, 264, 265, 266, 752, 753, 754, 755, 393, 394, 395, 389, 390, 391, 392, 240, 241, 242, 243, 897, 898, 899, 900, 901, 902, 903, 904, 905, 906, 907, 908, 909, 910, 911, 912, 913, 914, 915, 916, 917, 918, 919, 920, 921, 922, 923, 924, 925, 926, 927, 928, 929] (by decide +kernel) (by decide +kernel)
set_option maxRecDepth 20000 in
theorem gL_law_X7_judge : GoodIn wsL_law (wsV RL 100 RX7 yX7_judge wsX7_judge) := goodIn_app (goodIn_of _ (by decide +kernel)) ggL_law_X7_judge
set_option maxRecDepth 20000 in
theorem ggL_law_X6_load : GoodIn wsL_law wsX6_load := goodIn_r _ [759, 15, 271, 32, 121, 122, 123, 2, 124, 34, 760, 761, 762, 31, 763, 90, 87, 738, 158, 159, 14, 160, 40, 41, 42, 43, 44, 45, 764, 765, 766, 767, 88, 768, 530, 309, 531, 769, 178, 179, 180, 181, 182, 183, 184, 770, 340, 341, 342, 343, 283, 284, 285, 286, 287, 344, 304, 305, 306, 307, 308, 310, 311, 312, 313, 314, 315, 316, 317, 318, 254, 255, 256, 257, 258, 259, 345, 346, 347, 348, 771, 370, 371, 372, 373, 374, 375, 376, 174, 175, 176, 177, 772, 773, 774, 775, 776, 777, 889, 890, 891, 892, 893, 894, 895, 896, 930, 931, 932, 933, 934, 935, 943, 944, 945] (by decide +kernel) (by decide +kernel)
set_option maxRecDepth 20000 in
theorem gL_law_X6_load : GoodIn wsL_law (wsV RL 101 RX6 yX6_load wsX6_load) := goodIn_app (goodIn_of _ (by decide +kernel)) ggL_law_X6_load
set_option maxRecDepth 20000 in
theorem ggL_law_X7_load : GoodIn wsL_law wsX7_load := goodIn_r _ [781, 219, 114, 729, 782, 137, 138, 139, 5, 140, 96, 783, 784, 785, 786, 115, 112, 212, 213, 214, 215, 216, 217, 97, 98, 99, 100, 218, 220, 221, 222, 223, 106, 224, 225, 226, 227, 232, 233, 234, 235, 236, 237, 238, 239, 353, 354, 355, 356, 295, 296, 297, 298, 357, 358, 359, 360, 323, 324, 325, 326, 327, 328, 329, 330, 264, 265, 266, 385, 386, 387, 388, 389, 390, 391, 392, 393, 394, 395, 240, 241, 242, 243, 787, 788, 789, 790, 897, 898, 899, 900, 901, 902, 903, 904, 905, 906, 907, 908, 909, 910, 911, 912, 913, 914, 915, 916, 917, 918, 919, 920, 921, 922, 923, 924, 925, 926, 927, 928, 929] (by decide +kernel) (by decide +kernel)
set_option maxRecDepth 20000 in
theorem gL_law_X7_load : GoodIn wsL_law (wsV RL 104 RX7 yX7_load wsX7_load) := goodIn_app (goodIn_of _ (by decide +kernel)) ggL_law_X7_load
set_option maxRecDepth 20000 in
theorem ggL_law_X6_cards : GoodIn wsL_law wsX6_cards := goodIn_r _ [794, 32, 720, 15, 121, 122, 123, 2, 124, 34, 795, 796, 797, 31, 798, 90, 738, 158, 159, 14, 160, 40, 41, 42, 43, 44, 45, 799, 800, 801, 802, 87, 88, 286, 287, 739, 740, 741, 742, 177, 178, 179, 180, 181, 182, 183, 184, 339, 340, 341, 342, 343, 283, 284, 285, 344, 304, 305, 306, 307, 308, 309, 310, 311, 312, 313, 314, 315, 316, 317, 318, 254, 255, 256, 257, 258, 259, 345, 346, 347, 348, 373, 374, 375, 743, 370, 371, 372, 376, 174, 175, 176, 889, 890, 891, 892, 893, 894, 895, 896, 943, 944, 945, 930, 931, 932, 933, 934, 935] (by decide +kernel) (by decide +kernel)
set_option maxRecDepth 20000 in
theorem gL_law_X6_cards : GoodIn wsL_law (wsV RL 105 RX6 yX6_cards wsX6_cards) := goodIn_app (goodIn_of _ (by decide +kernel)) ggL_law_X6_cards
set_option maxRecDepth 20000 in
theorem ggL_law_X7_cards : GoodIn wsL_law wsX7_cards := goodIn_r _ [806, 729, 113, 137, 138, 139, 5, 140, 96, 748, 749, 750, 751, 112, 212, 213, 214, 215, 216, 217, 97, 98, 99, 100, 218, 219, 220, 221, 222, 223, 106, 224, 225, 226, 227, 232, 233, 234, 235, 236, 237, 238, 239, 353, 354, 355, 356, 295, 296, 297, 298, 357, 358, 359, 360, 323, 324, 325, 326, 327, 328, 329, 330, 264, 265, 266, 752, 753, 754, 755, 393, 394, 395, 389, 390, 391, 392, 240, 241, 242, 243, 807, 808, 809, 810, 811, 812, 813, 814, 897, 898, 899, 900, 901, 902, 903, 904, 905, 906, 907, 908, 909, 910, 911, 912, 913, 914, 915, 916, 917, 918, 919, 920, 921, 922, 923, 924, 925, 926, 927, 928, 929] (by decide +kernel) (by decide +kernel)
set_option maxRecDepth 20000 in
theorem gL_law_X7_cards : GoodIn wsL_law (wsV RL 108 RX7 yX7_cards wsX7_cards) := goodIn_app (goodIn_of _ (by decide +kernel)) ggL_law_X7_cards
set_option maxRecDepth 20000 in
theorem ggL_law_X6_clear : GoodIn wsL_law wsX6_clear := goodIn_r _ [818, 32, 819, 820, 821, 31, 822, 87, 889, 890, 891, 892, 893, 894, 895, 896, 943, 944, 945] (by decide +kernel) (by decide +kernel)
set_option maxRecDepth 20000 in
theorem gL_law_X6_clear : GoodIn wsL_law (wsV RL 109 RX6 yX6_clear wsX6_clear) := goodIn_app (goodIn_of _ (by decide +kernel)) ggL_law_X6_clear
set_option maxRecDepth 20000 in
theorem ggL_law_X7_clear : GoodIn wsL_law wsX7_clear := goodIn_r _ [826, 729, 897, 898, 899, 900, 901, 902, 903, 904, 905, 906, 907, 908, 909, 910, 911, 912, 913, 914, 915, 916, 917, 918, 919, 920, 921, 922, 923, 924, 925, 926, 927, 928, 929] (by decide +kernel) (by decide +kernel)
set_option maxRecDepth 20000 in
theorem gL_law_X7_clear : GoodIn wsL_law (wsV RL 112 RX7 yX7_clear wsX7_clear) := goodIn_app (goodIn_of _ (by decide +kernel)) ggL_law_X7_clear
set_option maxRecDepth 20000 in
theorem ggL_law_X6_seeds : GoodIn wsL_law wsX6_seeds := goodIn_r _ [830, 15, 831, 32, 121, 122, 123, 2, 124, 34, 832, 833, 834, 31, 835, 90, 836, 738, 158, 159, 14, 160, 40, 41, 42, 43, 44, 45, 837, 838, 839, 840, 841, 842, 843, 844, 845, 739, 740, 741, 742, 177, 178, 179, 180, 181, 182, 183, 184, 339, 340, 341, 342, 343, 283, 284, 285, 286, 287, 344, 304, 305, 306, 307, 308, 309, 310, 311, 312, 313, 314, 315, 316, 317, 318, 254, 255, 256, 257, 258, 259, 345, 346, 347, 348, 373, 374, 375, 743, 370, 371, 372, 376, 174, 175, 176, 846, 378, 379, 380, 889, 890, 891, 892, 893, 894, 895, 896, 930, 931, 932, 933, 934, 935, 943, 944, 945] (by decide +kernel) (by decide +kernel)
set_option maxRecDepth 20000 in
theorem gL_law_X6_seeds : GoodIn wsL_law (wsV RL 113 RX6 yX6_seeds wsX6_seeds) := goodIn_app (goodIn_of _ (by decide +kernel)) ggL_law_X6_seeds
set_option maxRecDepth 20000 in
theorem ggL_law_X7_seeds : GoodIn wsL_law wsX7_seeds := goodIn_r _ [850, 218, 851, 852, 853, 134, 135, 5, 136, 137, 138, 139, 140, 96, 212, 213, 214, 215, 216, 217, 97, 98, 99, 100, 219, 220, 221, 222, 223, 106, 224, 225, 226, 227, 353, 354, 355, 356, 295, 296, 297, 298, 357, 358, 359, 360, 323, 324, 325, 326, 327, 328, 329, 330, 264, 265, 266, 752, 753, 754, 755, 393, 394, 395, 389, 390, 391, 392, 240, 241, 242, 243, 396, 397, 398, 399, 897, 898, 899, 900, 901, 902, 903, 904, 905, 906, 907, 908, 909, 910, 911, 912, 913, 914, 915, 916, 917, 918, 919, 920, 921, 922, 923, 924, 925, 926, 927, 928, 929] (by decide +kernel) (by decide +kernel)
set_option maxRecDepth 20000 in
theorem gL_law_X7_seeds : GoodIn wsL_law (wsV RL 116 RX7 yX7_seeds wsX7_seeds) := goodIn_app (goodIn_of _ (by decide +kernel)) ggL_law_X7_seeds
set_option maxRecDepth 20000 in
theorem ggL_law_X6_image : GoodIn wsL_law wsX6_image := goodIn_r _ [857, 16, 15, 35, 858, 158, 159, 14, 160, 40, 41, 42, 43, 44, 45, 377, 378, 379, 380, 318, 254, 255, 256, 257, 258, 259, 889, 890, 891, 892, 893, 894, 895, 896, 930, 931, 932, 933, 934, 935] (by decide +kernel) (by decide +kernel)
set_option maxRecDepth 20000 in
theorem gL_law_X6_image : GoodIn wsL_law (wsV RL 117 RX6 yX6_image wsX6_image) := goodIn_app (goodIn_of _ (by decide +kernel)) ggL_law_X6_image
set_option maxRecDepth 20000 in
theorem ggL_law_X7_image : GoodIn wsL_law wsX7_image := goodIn_r _ [862, 863, 212, 213, 214, 5, 215, 216, 217, 97, 98, 99, 100, 218, 219, 220, 221, 222, 223, 106, 224, 225, 226, 227, 396, 397, 398, 399, 264, 265, 266, 897, 898, 899, 900, 901, 902, 903, 904, 905, 906, 907, 908, 909, 910, 911, 912, 913, 914, 915, 916, 917, 918, 919, 920, 921, 922, 923, 924, 925, 926, 927, 928, 929] (by decide +kernel) (by decide +kernel)
set_option maxRecDepth 20000 in
theorem gL_law_X7_image : GoodIn wsL_law (wsV RL 120 RX7 yX7_image wsX7_image) := goodIn_app (goodIn_of _ (by decide +kernel)) ggL_law_X7_image
set_option maxRecDepth 20000 in
theorem ggL_law_X6_restore : GoodIn wsL_law wsX6_restore := goodIn_r _ [867, 35, 15, 16, 121, 122, 123, 2, 124, 34, 858, 158, 159, 14, 160, 40, 41, 42, 43, 44, 45, 377, 378, 379, 380, 318, 254, 255, 256, 257, 258, 259, 889, 890, 891, 892, 893, 894, 895, 896, 930, 931, 932, 933, 934, 935] (by decide +kernel) (by decide +kernel)
set_option maxRecDepth 20000 in
theorem gL_law_X6_restore : GoodIn wsL_law (wsV RL 121 RX6 yX6_restore wsX6_restore) := goodIn_app (goodIn_of _ (by decide +kernel)) ggL_law_X6_restore
set_option maxRecDepth 20000 in
theorem ggL_law_X7_restore : GoodIn wsL_law wsX7_restore := goodIn_r _ [871, 863, 137, 138, 139, 5, 140, 96, 212, 213, 214, 215, 216, 217, 97, 98, 99, 100, 218, 219, 220, 221, 222, 223, 106, 224, 225, 226, 227, 396, 397, 398, 399, 264, 265, 266, 897, 898, 899, 900, 901, 902, 903, 904, 905, 906, 907, 908, 909, 910, 911, 912, 913, 914, 915, 916, 917, 918, 919, 920, 921, 922, 923, 924, 925, 926, 927, 928, 929] (by decide +kernel) (by decide +kernel)
set_option maxRecDepth 20000 in
theorem gL_law_X7_restore : GoodIn wsL_law (wsV RL 124 RX7 yX7_restore wsX7_restore) := goodIn_app (goodIn_of _ (by decide +kernel)) ggL_law_X7_restore
set_option maxRecDepth 20000 in
theorem ggL_law_X6_count : GoodIn wsL_law wsX6_count := goodIn_r _ [875, 34, 15, 831, 271, 20, 120, 32, 720, 377, 378, 379, 14, 380, 40, 45, 318, 254, 255, 256, 257, 258, 259, 876, 877, 878, 879, 880, 336, 337, 338, 339, 340, 341, 342, 41, 343, 283, 284, 285, 286, 2, 287, 344, 304, 305, 306, 307, 308, 309, 310, 311, 312, 313, 314, 44, 43, 42, 315, 316, 317, 345, 346, 347, 348, 881, 882, 883, 884, 889, 890, 891, 892, 893, 894, 895, 896, 930, 931, 932, 933, 934, 935, 936, 937, 938, 943, 944, 945] (by decide +kernel) (by decide +kernel)
set_option maxRecDepth 20000 in
theorem gL_law_X6_count : GoodIn wsL_law (wsV RL 125 RX6 yX6_count wsX6_count) := goodIn_app (goodIn_of _ (by decide +kernel)) ggL_law_X6_count
set_option maxRecDepth 20000 in
theorem ggL_law_X7_count : GoodIn wsL_law wsX7_count := goodIn_r _ [888, 96, 218, 219, 99, 133, 729, 209, 210, 5, 211, 396, 397, 398, 399, 100, 264, 265, 266, 353, 354, 355, 356, 295, 296, 297, 298, 357, 358, 359, 360, 97, 98, 323, 324, 325, 326, 327, 328, 329, 330, 897, 898, 899, 900, 901, 902, 903, 904, 905, 906, 907, 908, 909, 910, 911, 912, 913, 914, 915, 916, 917, 918, 919, 920, 921, 922, 923, 924, 925, 926, 927, 928, 929] (by decide +kernel) (by decide +kernel)
set_option maxRecDepth 20000 in
theorem gL_law_X7_count : GoodIn wsL_law (wsV RL 128 RX7 yX7_count wsX7_count) := goodIn_app (goodIn_of _ (by decide +kernel)) ggL_law_X7_count
theorem dL_law_0 : decode cL_law 0 = .ok (.new 7, 3) := by decide +kernel
theorem dL_law_3 : decode cL_law 3 = .ok (.dup, 1) := by decide +kernel
theorem dL_law_4 : decode cL_law 4 = .ok (.invokespecial 9, 3) := by decide +kernel
theorem dL_law_7 : decode cL_law 7 = .ok (.astore_n 1, 1) := by decide +kernel
theorem dL_law_8 : decode cL_law 8 = .ok (.new 10, 3) := by decide +kernel
theorem dL_law_11 : decode cL_law 11 = .ok (.dup, 1) := by decide +kernel
theorem dL_law_12 : decode cL_law 12 = .ok (.invokespecial 12, 3) := by decide +kernel
theorem dL_law_15 : decode cL_law 15 = .ok (.astore_n 2, 1) := by decide +kernel
theorem dL_law_16 : decode cL_law 16 = .ok (.iconst 0, 1) := by decide +kernel
theorem dL_law_17 : decode cL_law 17 = .ok (.istore_n 3, 1) := by decide +kernel
theorem dL_law_18 : decode cL_law 18 = .ok (.iload_n 3, 1) := by decide +kernel
theorem dL_law_19 : decode cL_law 19 = .ok (.aload_n 0, 1) := by decide +kernel
theorem dL_law_20 : decode cL_law 20 = .ok (.arraylength, 1) := by decide +kernel
theorem dL_law_21 : decode cL_law 21 = .ok (.iconst 4, 1) := by decide +kernel
theorem dL_law_22 : decode cL_law 22 = .ok (.isub, 1) := by decide +kernel
theorem dL_law_23 : decode cL_law 23 = .ok (.if_icmp .gt 817, 3) := by decide +kernel
theorem dL_law_26 : decode cL_law 26 = .ok (.aload_n 0, 1) := by decide +kernel
theorem dL_law_27 : decode cL_law 27 = .ok (.iload_n 3, 1) := by decide +kernel
theorem dL_law_28 : decode cL_law 28 = .ok (.iaload, 1) := by decide +kernel
theorem dL_law_29 : decode cL_law 29 = .ok (.bipush 31, 2) := by decide +kernel
theorem dL_law_31 : decode cL_law 31 = .ok (.iand, 1) := by decide +kernel
theorem dL_law_32 : decode cL_law 32 = .ok (.tableswitch 802 0 27 #[128, 151, 164, 197, 220, 253, 286, 319, 362, 375, 408, 441, 464, 497, 510, 533, 566, 599, 622, 645, 668, 681, 694, 707, 720, 753, 766, 779], 128) := by decide +kernel
theorem dL_law_160 : decode cL_law 160 = .ok (.aload_n 1, 1) := by decide +kernel
theorem dL_law_161 : decode cL_law 161 = .ok (.aload_n 0, 1) := by decide +kernel
theorem dL_law_162 : decode cL_law 162 = .ok (.iload_n 3, 1) := by decide +kernel
theorem dL_law_163 : decode cL_law 163 = .ok (.iconst 1, 1) := by decide +kernel
theorem dL_law_164 : decode cL_law 164 = .ok (.iadd, 1) := by decide +kernel
theorem dL_law_165 : decode cL_law 165 = .ok (.iaload, 1) := by decide +kernel
theorem dL_law_166 : decode cL_law 166 = .ok (.invokevirtual 13, 3) := by decide +kernel
theorem dL_law_169 : decode cL_law 169 = .ok (.aload_n 2, 1) := by decide +kernel
theorem dL_law_170 : decode cL_law 170 = .ok (.aload_n 0, 1) := by decide +kernel
theorem dL_law_171 : decode cL_law 171 = .ok (.iload_n 3, 1) := by decide +kernel
theorem dL_law_172 : decode cL_law 172 = .ok (.iconst 1, 1) := by decide +kernel
theorem dL_law_173 : decode cL_law 173 = .ok (.iadd, 1) := by decide +kernel
theorem dL_law_174 : decode cL_law 174 = .ok (.iaload, 1) := by decide +kernel
theorem dL_law_175 : decode cL_law 175 = .ok (.invokevirtual 17, 3) := by decide +kernel
theorem dL_law_178 : decode cL_law 178 = .ok (.if_icmp .eq 656, 3) := by decide +kernel
theorem dL_law_181 : decode cL_law 181 = .ok (.iconst 0, 1) := by decide +kernel
theorem dL_law_182 : decode cL_law 182 = .ok (.ireturn, 1) := by decide +kernel
theorem dL_law_183 : decode cL_law 183 = .ok (.aload_n 1, 1) := by decide +kernel
theorem dL_law_184 : decode cL_law 184 = .ok (.invokevirtual 18, 3) := by decide +kernel
theorem dL_law_187 : decode cL_law 187 = .ok (.aload_n 2, 1) := by decide +kernel
theorem dL_law_188 : decode cL_law 188 = .ok (.invokevirtual 22, 3) := by decide +kernel
theorem dL_law_191 : decode cL_law 191 = .ok (.if_icmp .eq 643, 3) := by decide +kernel
theorem dL_law_194 : decode cL_law 194 = .ok (.iconst 0, 1) := by decide +kernel
theorem dL_law_195 : decode cL_law 195 = .ok (.ireturn, 1) := by decide +kernel
theorem dL_law_196 : decode cL_law 196 = .ok (.aload_n 1, 1) := by decide +kernel
theorem dL_law_197 : decode cL_law 197 = .ok (.aload_n 0, 1) := by decide +kernel
theorem dL_law_198 : decode cL_law 198 = .ok (.iload_n 3, 1) := by decide +kernel
theorem dL_law_199 : decode cL_law 199 = .ok (.iconst 1, 1) := by decide +kernel
theorem dL_law_200 : decode cL_law 200 = .ok (.iadd, 1) := by decide +kernel
theorem dL_law_201 : decode cL_law 201 = .ok (.iaload, 1) := by decide +kernel
theorem dL_law_202 : decode cL_law 202 = .ok (.aload_n 0, 1) := by decide +kernel
theorem dL_law_203 : decode cL_law 203 = .ok (.iload_n 3, 1) := by decide +kernel
theorem dL_law_204 : decode cL_law 204 = .ok (.iconst 2, 1) := by decide +kernel
theorem dL_law_205 : decode cL_law 205 = .ok (.iadd, 1) := by decide +kernel
theorem dL_law_206 : decode cL_law 206 = .ok (.iaload, 1) := by decide +kernel
theorem dL_law_207 : decode cL_law 207 = .ok (.invokevirtual 23, 3) := by decide +kernel
theorem dL_law_210 : decode cL_law 210 = .ok (.aload_n 2, 1) := by decide +kernel
theorem dL_law_211 : decode cL_law 211 = .ok (.aload_n 0, 1) := by decide +kernel
theorem dL_law_212 : decode cL_law 212 = .ok (.iload_n 3, 1) := by decide +kernel
theorem dL_law_213 : decode cL_law 213 = .ok (.iconst 1, 1) := by decide +kernel
theorem dL_law_214 : decode cL_law 214 = .ok (.iadd, 1) := by decide +kernel
theorem dL_law_215 : decode cL_law 215 = .ok (.iaload, 1) := by decide +kernel
theorem dL_law_216 : decode cL_law 216 = .ok (.aload_n 0, 1) := by decide +kernel
theorem dL_law_217 : decode cL_law 217 = .ok (.iload_n 3, 1) := by decide +kernel
theorem dL_law_218 : decode cL_law 218 = .ok (.iconst 2, 1) := by decide +kernel
theorem dL_law_219 : decode cL_law 219 = .ok (.iadd, 1) := by decide +kernel
theorem dL_law_220 : decode cL_law 220 = .ok (.iaload, 1) := by decide +kernel
theorem dL_law_221 : decode cL_law 221 = .ok (.invokevirtual 27, 3) := by decide +kernel
theorem dL_law_224 : decode cL_law 224 = .ok (.if_icmp .eq 610, 3) := by decide +kernel
theorem dL_law_227 : decode cL_law 227 = .ok (.iconst 0, 1) := by decide +kernel
theorem dL_law_228 : decode cL_law 228 = .ok (.ireturn, 1) := by decide +kernel
theorem dL_law_229 : decode cL_law 229 = .ok (.aload_n 1, 1) := by decide +kernel
theorem dL_law_230 : decode cL_law 230 = .ok (.aload_n 0, 1) := by decide +kernel
theorem dL_law_231 : decode cL_law 231 = .ok (.iload_n 3, 1) := by decide +kernel
theorem dL_law_232 : decode cL_law 232 = .ok (.iconst 1, 1) := by decide +kernel
theorem dL_law_233 : decode cL_law 233 = .ok (.iadd, 1) := by decide +kernel
theorem dL_law_234 : decode cL_law 234 = .ok (.iaload, 1) := by decide +kernel
theorem dL_law_235 : decode cL_law 235 = .ok (.invokevirtual 28, 3) := by decide +kernel
theorem dL_law_238 : decode cL_law 238 = .ok (.aload_n 2, 1) := by decide +kernel
theorem dL_law_239 : decode cL_law 239 = .ok (.aload_n 0, 1) := by decide +kernel
theorem dL_law_240 : decode cL_law 240 = .ok (.iload_n 3, 1) := by decide +kernel
theorem dL_law_241 : decode cL_law 241 = .ok (.iconst 1, 1) := by decide +kernel
theorem dL_law_242 : decode cL_law 242 = .ok (.iadd, 1) := by decide +kernel
theorem dL_law_243 : decode cL_law 243 = .ok (.iaload, 1) := by decide +kernel
theorem dL_law_244 : decode cL_law 244 = .ok (.invokevirtual 31, 3) := by decide +kernel
theorem dL_law_247 : decode cL_law 247 = .ok (.if_icmp .eq 587, 3) := by decide +kernel
theorem dL_law_250 : decode cL_law 250 = .ok (.iconst 0, 1) := by decide +kernel
theorem dL_law_251 : decode cL_law 251 = .ok (.ireturn, 1) := by decide +kernel
theorem dL_law_252 : decode cL_law 252 = .ok (.aload_n 1, 1) := by decide +kernel
theorem dL_law_253 : decode cL_law 253 = .ok (.aload_n 0, 1) := by decide +kernel
theorem dL_law_254 : decode cL_law 254 = .ok (.iload_n 3, 1) := by decide +kernel
theorem dL_law_255 : decode cL_law 255 = .ok (.iconst 1, 1) := by decide +kernel
theorem dL_law_256 : decode cL_law 256 = .ok (.iadd, 1) := by decide +kernel
theorem dL_law_257 : decode cL_law 257 = .ok (.iaload, 1) := by decide +kernel
theorem dL_law_258 : decode cL_law 258 = .ok (.aload_n 0, 1) := by decide +kernel
theorem dL_law_259 : decode cL_law 259 = .ok (.iload_n 3, 1) := by decide +kernel
theorem dL_law_260 : decode cL_law 260 = .ok (.iconst 2, 1) := by decide +kernel
theorem dL_law_261 : decode cL_law 261 = .ok (.iadd, 1) := by decide +kernel
theorem dL_law_262 : decode cL_law 262 = .ok (.iaload, 1) := by decide +kernel
theorem dL_law_263 : decode cL_law 263 = .ok (.invokevirtual 32, 3) := by decide +kernel
theorem dL_law_266 : decode cL_law 266 = .ok (.aload_n 2, 1) := by decide +kernel
theorem dL_law_267 : decode cL_law 267 = .ok (.aload_n 0, 1) := by decide +kernel
theorem dL_law_268 : decode cL_law 268 = .ok (.iload_n 3, 1) := by decide +kernel
theorem dL_law_269 : decode cL_law 269 = .ok (.iconst 1, 1) := by decide +kernel
theorem dL_law_270 : decode cL_law 270 = .ok (.iadd, 1) := by decide +kernel
theorem dL_law_271 : decode cL_law 271 = .ok (.iaload, 1) := by decide +kernel
theorem dL_law_272 : decode cL_law 272 = .ok (.aload_n 0, 1) := by decide +kernel
theorem dL_law_273 : decode cL_law 273 = .ok (.iload_n 3, 1) := by decide +kernel
theorem dL_law_274 : decode cL_law 274 = .ok (.iconst 2, 1) := by decide +kernel
theorem dL_law_275 : decode cL_law 275 = .ok (.iadd, 1) := by decide +kernel
theorem dL_law_276 : decode cL_law 276 = .ok (.iaload, 1) := by decide +kernel
theorem dL_law_277 : decode cL_law 277 = .ok (.invokevirtual 35, 3) := by decide +kernel
theorem dL_law_280 : decode cL_law 280 = .ok (.if_icmp .eq 554, 3) := by decide +kernel
theorem dL_law_283 : decode cL_law 283 = .ok (.iconst 0, 1) := by decide +kernel
theorem dL_law_284 : decode cL_law 284 = .ok (.ireturn, 1) := by decide +kernel
theorem dL_law_285 : decode cL_law 285 = .ok (.aload_n 1, 1) := by decide +kernel
theorem dL_law_286 : decode cL_law 286 = .ok (.aload_n 0, 1) := by decide +kernel
theorem dL_law_287 : decode cL_law 287 = .ok (.iload_n 3, 1) := by decide +kernel
theorem dL_law_288 : decode cL_law 288 = .ok (.iconst 1, 1) := by decide +kernel
theorem dL_law_289 : decode cL_law 289 = .ok (.iadd, 1) := by decide +kernel
theorem dL_law_290 : decode cL_law 290 = .ok (.iaload, 1) := by decide +kernel
theorem dL_law_291 : decode cL_law 291 = .ok (.aload_n 0, 1) := by decide +kernel
theorem dL_law_292 : decode cL_law 292 = .ok (.iload_n 3, 1) := by decide +kernel
theorem dL_law_293 : decode cL_law 293 = .ok (.iconst 2, 1) := by decide +kernel
theorem dL_law_294 : decode cL_law 294 = .ok (.iadd, 1) := by decide +kernel
theorem dL_law_295 : decode cL_law 295 = .ok (.iaload, 1) := by decide +kernel
theorem dL_law_296 : decode cL_law 296 = .ok (.invokevirtual 36, 3) := by decide +kernel
theorem dL_law_299 : decode cL_law 299 = .ok (.aload_n 2, 1) := by decide +kernel
theorem dL_law_300 : decode cL_law 300 = .ok (.aload_n 0, 1) := by decide +kernel
theorem dL_law_301 : decode cL_law 301 = .ok (.iload_n 3, 1) := by decide +kernel
theorem dL_law_302 : decode cL_law 302 = .ok (.iconst 1, 1) := by decide +kernel
theorem dL_law_303 : decode cL_law 303 = .ok (.iadd, 1) := by decide +kernel
theorem dL_law_304 : decode cL_law 304 = .ok (.iaload, 1) := by decide +kernel
theorem dL_law_305 : decode cL_law 305 = .ok (.aload_n 0, 1) := by decide +kernel
theorem dL_law_306 : decode cL_law 306 = .ok (.iload_n 3, 1) := by decide +kernel
theorem dL_law_307 : decode cL_law 307 = .ok (.iconst 2, 1) := by decide +kernel
theorem dL_law_308 : decode cL_law 308 = .ok (.iadd, 1) := by decide +kernel
theorem dL_law_309 : decode cL_law 309 = .ok (.iaload, 1) := by decide +kernel
theorem dL_law_310 : decode cL_law 310 = .ok (.invokevirtual 39, 3) := by decide +kernel
theorem dL_law_313 : decode cL_law 313 = .ok (.if_icmp .eq 521, 3) := by decide +kernel
theorem dL_law_316 : decode cL_law 316 = .ok (.iconst 0, 1) := by decide +kernel
theorem dL_law_317 : decode cL_law 317 = .ok (.ireturn, 1) := by decide +kernel
theorem dL_law_318 : decode cL_law 318 = .ok (.aload_n 1, 1) := by decide +kernel
theorem dL_law_319 : decode cL_law 319 = .ok (.aload_n 0, 1) := by decide +kernel
theorem dL_law_320 : decode cL_law 320 = .ok (.iload_n 3, 1) := by decide +kernel
theorem dL_law_321 : decode cL_law 321 = .ok (.iconst 1, 1) := by decide +kernel
theorem dL_law_322 : decode cL_law 322 = .ok (.iadd, 1) := by decide +kernel
theorem dL_law_323 : decode cL_law 323 = .ok (.iaload, 1) := by decide +kernel
theorem dL_law_324 : decode cL_law 324 = .ok (.aload_n 0, 1) := by decide +kernel
theorem dL_law_325 : decode cL_law 325 = .ok (.iload_n 3, 1) := by decide +kernel
theorem dL_law_326 : decode cL_law 326 = .ok (.iconst 2, 1) := by decide +kernel
theorem dL_law_327 : decode cL_law 327 = .ok (.iadd, 1) := by decide +kernel
theorem dL_law_328 : decode cL_law 328 = .ok (.iaload, 1) := by decide +kernel
theorem dL_law_329 : decode cL_law 329 = .ok (.invokevirtual 40, 3) := by decide +kernel
theorem dL_law_332 : decode cL_law 332 = .ok (.aload_n 2, 1) := by decide +kernel
theorem dL_law_333 : decode cL_law 333 = .ok (.aload_n 0, 1) := by decide +kernel
theorem dL_law_334 : decode cL_law 334 = .ok (.iload_n 3, 1) := by decide +kernel
theorem dL_law_335 : decode cL_law 335 = .ok (.iconst 1, 1) := by decide +kernel
theorem dL_law_336 : decode cL_law 336 = .ok (.iadd, 1) := by decide +kernel
theorem dL_law_337 : decode cL_law 337 = .ok (.iaload, 1) := by decide +kernel
theorem dL_law_338 : decode cL_law 338 = .ok (.aload_n 0, 1) := by decide +kernel
theorem dL_law_339 : decode cL_law 339 = .ok (.iload_n 3, 1) := by decide +kernel
theorem dL_law_340 : decode cL_law 340 = .ok (.iconst 2, 1) := by decide +kernel
theorem dL_law_341 : decode cL_law 341 = .ok (.iadd, 1) := by decide +kernel
theorem dL_law_342 : decode cL_law 342 = .ok (.iaload, 1) := by decide +kernel
theorem dL_law_343 : decode cL_law 343 = .ok (.invokevirtual 43, 3) := by decide +kernel
theorem dL_law_346 : decode cL_law 346 = .ok (.if_icmp .eq 488, 3) := by decide +kernel
theorem dL_law_349 : decode cL_law 349 = .ok (.iconst 0, 1) := by decide +kernel
theorem dL_law_350 : decode cL_law 350 = .ok (.ireturn, 1) := by decide +kernel
theorem dL_law_351 : decode cL_law 351 = .ok (.aload_n 1, 1) := by decide +kernel
theorem dL_law_352 : decode cL_law 352 = .ok (.aload_n 0, 1) := by decide +kernel
theorem dL_law_353 : decode cL_law 353 = .ok (.iload_n 3, 1) := by decide +kernel
theorem dL_law_354 : decode cL_law 354 = .ok (.iconst 1, 1) := by decide +kernel
theorem dL_law_355 : decode cL_law 355 = .ok (.iadd, 1) := by decide +kernel
theorem dL_law_356 : decode cL_law 356 = .ok (.iaload, 1) := by decide +kernel
theorem dL_law_357 : decode cL_law 357 = .ok (.aload_n 0, 1) := by decide +kernel
theorem dL_law_358 : decode cL_law 358 = .ok (.iload_n 3, 1) := by decide +kernel
theorem dL_law_359 : decode cL_law 359 = .ok (.iconst 2, 1) := by decide +kernel
theorem dL_law_360 : decode cL_law 360 = .ok (.iadd, 1) := by decide +kernel
theorem dL_law_361 : decode cL_law 361 = .ok (.iaload, 1) := by decide +kernel
theorem dL_law_362 : decode cL_law 362 = .ok (.aload_n 0, 1) := by decide +kernel
theorem dL_law_363 : decode cL_law 363 = .ok (.iload_n 3, 1) := by decide +kernel
theorem dL_law_364 : decode cL_law 364 = .ok (.iconst 3, 1) := by decide +kernel
theorem dL_law_365 : decode cL_law 365 = .ok (.iadd, 1) := by decide +kernel
theorem dL_law_366 : decode cL_law 366 = .ok (.iaload, 1) := by decide +kernel
theorem dL_law_367 : decode cL_law 367 = .ok (.invokevirtual 44, 3) := by decide +kernel
theorem dL_law_370 : decode cL_law 370 = .ok (.aload_n 2, 1) := by decide +kernel
theorem dL_law_371 : decode cL_law 371 = .ok (.aload_n 0, 1) := by decide +kernel
theorem dL_law_372 : decode cL_law 372 = .ok (.iload_n 3, 1) := by decide +kernel
theorem dL_law_373 : decode cL_law 373 = .ok (.iconst 1, 1) := by decide +kernel
theorem dL_law_374 : decode cL_law 374 = .ok (.iadd, 1) := by decide +kernel
theorem dL_law_375 : decode cL_law 375 = .ok (.iaload, 1) := by decide +kernel
theorem dL_law_376 : decode cL_law 376 = .ok (.aload_n 0, 1) := by decide +kernel
theorem dL_law_377 : decode cL_law 377 = .ok (.iload_n 3, 1) := by decide +kernel
theorem dL_law_378 : decode cL_law 378 = .ok (.iconst 2, 1) := by decide +kernel
theorem dL_law_379 : decode cL_law 379 = .ok (.iadd, 1) := by decide +kernel
theorem dL_law_380 : decode cL_law 380 = .ok (.iaload, 1) := by decide +kernel
theorem dL_law_381 : decode cL_law 381 = .ok (.aload_n 0, 1) := by decide +kernel
theorem dL_law_382 : decode cL_law 382 = .ok (.iload_n 3, 1) := by decide +kernel
theorem dL_law_383 : decode cL_law 383 = .ok (.iconst 3, 1) := by decide +kernel
theorem dL_law_384 : decode cL_law 384 = .ok (.iadd, 1) := by decide +kernel
theorem dL_law_385 : decode cL_law 385 = .ok (.iaload, 1) := by decide +kernel
theorem dL_law_386 : decode cL_law 386 = .ok (.invokevirtual 48, 3) := by decide +kernel
theorem dL_law_389 : decode cL_law 389 = .ok (.if_icmp .eq 445, 3) := by decide +kernel
theorem dL_law_392 : decode cL_law 392 = .ok (.iconst 0, 1) := by decide +kernel
theorem dL_law_393 : decode cL_law 393 = .ok (.ireturn, 1) := by decide +kernel
theorem dL_law_394 : decode cL_law 394 = .ok (.aload_n 1, 1) := by decide +kernel
theorem dL_law_395 : decode cL_law 395 = .ok (.invokevirtual 49, 3) := by decide +kernel
theorem dL_law_398 : decode cL_law 398 = .ok (.aload_n 2, 1) := by decide +kernel
theorem dL_law_399 : decode cL_law 399 = .ok (.invokevirtual 52, 3) := by decide +kernel
theorem dL_law_402 : decode cL_law 402 = .ok (.if_icmp .eq 432, 3) := by decide +kernel
theorem dL_law_405 : decode cL_law 405 = .ok (.iconst 0, 1) := by decide +kernel
theorem dL_law_406 : decode cL_law 406 = .ok (.ireturn, 1) := by decide +kernel
theorem dL_law_407 : decode cL_law 407 = .ok (.aload_n 1, 1) := by decide +kernel
theorem dL_law_408 : decode cL_law 408 = .ok (.aload_n 0, 1) := by decide +kernel
theorem dL_law_409 : decode cL_law 409 = .ok (.iload_n 3, 1) := by decide +kernel
theorem dL_law_410 : decode cL_law 410 = .ok (.iconst 1, 1) := by decide +kernel
theorem dL_law_411 : decode cL_law 411 = .ok (.iadd, 1) := by decide +kernel
theorem dL_law_412 : decode cL_law 412 = .ok (.iaload, 1) := by decide +kernel
theorem dL_law_413 : decode cL_law 413 = .ok (.aload_n 0, 1) := by decide +kernel
theorem dL_law_414 : decode cL_law 414 = .ok (.iload_n 3, 1) := by decide +kernel
theorem dL_law_415 : decode cL_law 415 = .ok (.iconst 2, 1) := by decide +kernel
theorem dL_law_416 : decode cL_law 416 = .ok (.iadd, 1) := by decide +kernel
theorem dL_law_417 : decode cL_law 417 = .ok (.iaload, 1) := by decide +kernel
theorem dL_law_418 : decode cL_law 418 = .ok (.invokevirtual 53, 3) := by decide +kernel
theorem dL_law_421 : decode cL_law 421 = .ok (.aload_n 2, 1) := by decide +kernel
theorem dL_law_422 : decode cL_law 422 = .ok (.aload_n 0, 1) := by decide +kernel
theorem dL_law_423 : decode cL_law 423 = .ok (.iload_n 3, 1) := by decide +kernel
theorem dL_law_424 : decode cL_law 424 = .ok (.iconst 1, 1) := by decide +kernel
theorem dL_law_425 : decode cL_law 425 = .ok (.iadd, 1) := by decide +kernel
theorem dL_law_426 : decode cL_law 426 = .ok (.iaload, 1) := by decide +kernel
theorem dL_law_427 : decode cL_law 427 = .ok (.aload_n 0, 1) := by decide +kernel
theorem dL_law_428 : decode cL_law 428 = .ok (.iload_n 3, 1) := by decide +kernel
theorem dL_law_429 : decode cL_law 429 = .ok (.iconst 2, 1) := by decide +kernel
theorem dL_law_430 : decode cL_law 430 = .ok (.iadd, 1) := by decide +kernel
theorem dL_law_431 : decode cL_law 431 = .ok (.iaload, 1) := by decide +kernel
theorem dL_law_432 : decode cL_law 432 = .ok (.invokevirtual 56, 3) := by decide +kernel
theorem dL_law_435 : decode cL_law 435 = .ok (.if_icmp .eq 399, 3) := by decide +kernel
theorem dL_law_438 : decode cL_law 438 = .ok (.iconst 0, 1) := by decide +kernel
theorem dL_law_439 : decode cL_law 439 = .ok (.ireturn, 1) := by decide +kernel
theorem dL_law_440 : decode cL_law 440 = .ok (.aload_n 1, 1) := by decide +kernel
theorem dL_law_441 : decode cL_law 441 = .ok (.aload_n 0, 1) := by decide +kernel
theorem dL_law_442 : decode cL_law 442 = .ok (.iload_n 3, 1) := by decide +kernel
theorem dL_law_443 : decode cL_law 443 = .ok (.iconst 1, 1) := by decide +kernel
theorem dL_law_444 : decode cL_law 444 = .ok (.iadd, 1) := by decide +kernel
theorem dL_law_445 : decode cL_law 445 = .ok (.iaload, 1) := by decide +kernel
theorem dL_law_446 : decode cL_law 446 = .ok (.aload_n 0, 1) := by decide +kernel
theorem dL_law_447 : decode cL_law 447 = .ok (.iload_n 3, 1) := by decide +kernel
theorem dL_law_448 : decode cL_law 448 = .ok (.iconst 2, 1) := by decide +kernel
theorem dL_law_449 : decode cL_law 449 = .ok (.iadd, 1) := by decide +kernel
theorem dL_law_450 : decode cL_law 450 = .ok (.iaload, 1) := by decide +kernel
theorem dL_law_451 : decode cL_law 451 = .ok (.invokevirtual 57, 3) := by decide +kernel
theorem dL_law_454 : decode cL_law 454 = .ok (.aload_n 2, 1) := by decide +kernel
theorem dL_law_455 : decode cL_law 455 = .ok (.aload_n 0, 1) := by decide +kernel
theorem dL_law_456 : decode cL_law 456 = .ok (.iload_n 3, 1) := by decide +kernel
theorem dL_law_457 : decode cL_law 457 = .ok (.iconst 1, 1) := by decide +kernel
theorem dL_law_458 : decode cL_law 458 = .ok (.iadd, 1) := by decide +kernel
theorem dL_law_459 : decode cL_law 459 = .ok (.iaload, 1) := by decide +kernel
theorem dL_law_460 : decode cL_law 460 = .ok (.aload_n 0, 1) := by decide +kernel
theorem dL_law_461 : decode cL_law 461 = .ok (.iload_n 3, 1) := by decide +kernel
theorem dL_law_462 : decode cL_law 462 = .ok (.iconst 2, 1) := by decide +kernel
theorem dL_law_463 : decode cL_law 463 = .ok (.iadd, 1) := by decide +kernel
theorem dL_law_464 : decode cL_law 464 = .ok (.iaload, 1) := by decide +kernel
theorem dL_law_465 : decode cL_law 465 = .ok (.invokevirtual 60, 3) := by decide +kernel
theorem dL_law_468 : decode cL_law 468 = .ok (.if_icmp .eq 366, 3) := by decide +kernel
theorem dL_law_471 : decode cL_law 471 = .ok (.iconst 0, 1) := by decide +kernel
theorem dL_law_472 : decode cL_law 472 = .ok (.ireturn, 1) := by decide +kernel
theorem dL_law_473 : decode cL_law 473 = .ok (.aload_n 1, 1) := by decide +kernel
theorem dL_law_474 : decode cL_law 474 = .ok (.aload_n 0, 1) := by decide +kernel
theorem dL_law_475 : decode cL_law 475 = .ok (.iload_n 3, 1) := by decide +kernel
theorem dL_law_476 : decode cL_law 476 = .ok (.iconst 1, 1) := by decide +kernel
theorem dL_law_477 : decode cL_law 477 = .ok (.iadd, 1) := by decide +kernel
theorem dL_law_478 : decode cL_law 478 = .ok (.iaload, 1) := by decide +kernel
theorem dL_law_479 : decode cL_law 479 = .ok (.invokevirtual 61, 3) := by decide +kernel
theorem dL_law_482 : decode cL_law 482 = .ok (.aload_n 2, 1) := by decide +kernel
theorem dL_law_483 : decode cL_law 483 = .ok (.aload_n 0, 1) := by decide +kernel
theorem dL_law_484 : decode cL_law 484 = .ok (.iload_n 3, 1) := by decide +kernel
theorem dL_law_485 : decode cL_law 485 = .ok (.iconst 1, 1) := by decide +kernel
theorem dL_law_486 : decode cL_law 486 = .ok (.iadd, 1) := by decide +kernel
theorem dL_law_487 : decode cL_law 487 = .ok (.iaload, 1) := by decide +kernel
theorem dL_law_488 : decode cL_law 488 = .ok (.invokevirtual 64, 3) := by decide +kernel
theorem dL_law_491 : decode cL_law 491 = .ok (.if_icmp .eq 343, 3) := by decide +kernel
theorem dL_law_494 : decode cL_law 494 = .ok (.iconst 0, 1) := by decide +kernel
theorem dL_law_495 : decode cL_law 495 = .ok (.ireturn, 1) := by decide +kernel
theorem dL_law_496 : decode cL_law 496 = .ok (.aload_n 1, 1) := by decide +kernel
theorem dL_law_497 : decode cL_law 497 = .ok (.aload_n 0, 1) := by decide +kernel
theorem dL_law_498 : decode cL_law 498 = .ok (.iload_n 3, 1) := by decide +kernel
theorem dL_law_499 : decode cL_law 499 = .ok (.iconst 1, 1) := by decide +kernel
theorem dL_law_500 : decode cL_law 500 = .ok (.iadd, 1) := by decide +kernel
theorem dL_law_501 : decode cL_law 501 = .ok (.iaload, 1) := by decide +kernel
theorem dL_law_502 : decode cL_law 502 = .ok (.aload_n 0, 1) := by decide +kernel
theorem dL_law_503 : decode cL_law 503 = .ok (.iload_n 3, 1) := by decide +kernel
theorem dL_law_504 : decode cL_law 504 = .ok (.iconst 2, 1) := by decide +kernel
theorem dL_law_505 : decode cL_law 505 = .ok (.iadd, 1) := by decide +kernel
theorem dL_law_506 : decode cL_law 506 = .ok (.iaload, 1) := by decide +kernel
theorem dL_law_507 : decode cL_law 507 = .ok (.invokevirtual 65, 3) := by decide +kernel
theorem dL_law_510 : decode cL_law 510 = .ok (.aload_n 2, 1) := by decide +kernel
theorem dL_law_511 : decode cL_law 511 = .ok (.aload_n 0, 1) := by decide +kernel
theorem dL_law_512 : decode cL_law 512 = .ok (.iload_n 3, 1) := by decide +kernel
theorem dL_law_513 : decode cL_law 513 = .ok (.iconst 1, 1) := by decide +kernel
theorem dL_law_514 : decode cL_law 514 = .ok (.iadd, 1) := by decide +kernel
theorem dL_law_515 : decode cL_law 515 = .ok (.iaload, 1) := by decide +kernel
theorem dL_law_516 : decode cL_law 516 = .ok (.aload_n 0, 1) := by decide +kernel
theorem dL_law_517 : decode cL_law 517 = .ok (.iload_n 3, 1) := by decide +kernel
theorem dL_law_518 : decode cL_law 518 = .ok (.iconst 2, 1) := by decide +kernel
theorem dL_law_519 : decode cL_law 519 = .ok (.iadd, 1) := by decide +kernel
theorem dL_law_520 : decode cL_law 520 = .ok (.iaload, 1) := by decide +kernel
theorem dL_law_521 : decode cL_law 521 = .ok (.invokevirtual 68, 3) := by decide +kernel
theorem dL_law_524 : decode cL_law 524 = .ok (.if_icmp .eq 310, 3) := by decide +kernel
theorem dL_law_527 : decode cL_law 527 = .ok (.iconst 0, 1) := by decide +kernel
theorem dL_law_528 : decode cL_law 528 = .ok (.ireturn, 1) := by decide +kernel
theorem dL_law_529 : decode cL_law 529 = .ok (.aload_n 1, 1) := by decide +kernel
theorem dL_law_530 : decode cL_law 530 = .ok (.invokevirtual 69, 3) := by decide +kernel
theorem dL_law_533 : decode cL_law 533 = .ok (.aload_n 2, 1) := by decide +kernel
theorem dL_law_534 : decode cL_law 534 = .ok (.invokevirtual 72, 3) := by decide +kernel
theorem dL_law_537 : decode cL_law 537 = .ok (.if_icmp .eq 297, 3) := by decide +kernel
theorem dL_law_540 : decode cL_law 540 = .ok (.iconst 0, 1) := by decide +kernel
theorem dL_law_541 : decode cL_law 541 = .ok (.ireturn, 1) := by decide +kernel
theorem dL_law_542 : decode cL_law 542 = .ok (.aload_n 1, 1) := by decide +kernel
theorem dL_law_543 : decode cL_law 543 = .ok (.aload_n 0, 1) := by decide +kernel
theorem dL_law_544 : decode cL_law 544 = .ok (.iload_n 3, 1) := by decide +kernel
theorem dL_law_545 : decode cL_law 545 = .ok (.iconst 1, 1) := by decide +kernel
theorem dL_law_546 : decode cL_law 546 = .ok (.iadd, 1) := by decide +kernel
theorem dL_law_547 : decode cL_law 547 = .ok (.iaload, 1) := by decide +kernel
theorem dL_law_548 : decode cL_law 548 = .ok (.invokevirtual 73, 3) := by decide +kernel
theorem dL_law_551 : decode cL_law 551 = .ok (.aload_n 2, 1) := by decide +kernel
theorem dL_law_552 : decode cL_law 552 = .ok (.aload_n 0, 1) := by decide +kernel
theorem dL_law_553 : decode cL_law 553 = .ok (.iload_n 3, 1) := by decide +kernel
theorem dL_law_554 : decode cL_law 554 = .ok (.iconst 1, 1) := by decide +kernel
theorem dL_law_555 : decode cL_law 555 = .ok (.iadd, 1) := by decide +kernel
theorem dL_law_556 : decode cL_law 556 = .ok (.iaload, 1) := by decide +kernel
theorem dL_law_557 : decode cL_law 557 = .ok (.invokevirtual 76, 3) := by decide +kernel
theorem dL_law_560 : decode cL_law 560 = .ok (.if_icmp .eq 274, 3) := by decide +kernel
theorem dL_law_563 : decode cL_law 563 = .ok (.iconst 0, 1) := by decide +kernel
theorem dL_law_564 : decode cL_law 564 = .ok (.ireturn, 1) := by decide +kernel
theorem dL_law_565 : decode cL_law 565 = .ok (.aload_n 1, 1) := by decide +kernel
theorem dL_law_566 : decode cL_law 566 = .ok (.aload_n 0, 1) := by decide +kernel
theorem dL_law_567 : decode cL_law 567 = .ok (.iload_n 3, 1) := by decide +kernel
theorem dL_law_568 : decode cL_law 568 = .ok (.iconst 1, 1) := by decide +kernel
theorem dL_law_569 : decode cL_law 569 = .ok (.iadd, 1) := by decide +kernel
theorem dL_law_570 : decode cL_law 570 = .ok (.iaload, 1) := by decide +kernel
theorem dL_law_571 : decode cL_law 571 = .ok (.aload_n 0, 1) := by decide +kernel
theorem dL_law_572 : decode cL_law 572 = .ok (.iload_n 3, 1) := by decide +kernel
theorem dL_law_573 : decode cL_law 573 = .ok (.iconst 2, 1) := by decide +kernel
theorem dL_law_574 : decode cL_law 574 = .ok (.iadd, 1) := by decide +kernel
theorem dL_law_575 : decode cL_law 575 = .ok (.iaload, 1) := by decide +kernel
theorem dL_law_576 : decode cL_law 576 = .ok (.invokevirtual 77, 3) := by decide +kernel
theorem dL_law_579 : decode cL_law 579 = .ok (.aload_n 2, 1) := by decide +kernel
theorem dL_law_580 : decode cL_law 580 = .ok (.aload_n 0, 1) := by decide +kernel
theorem dL_law_581 : decode cL_law 581 = .ok (.iload_n 3, 1) := by decide +kernel
theorem dL_law_582 : decode cL_law 582 = .ok (.iconst 1, 1) := by decide +kernel
theorem dL_law_583 : decode cL_law 583 = .ok (.iadd, 1) := by decide +kernel
theorem dL_law_584 : decode cL_law 584 = .ok (.iaload, 1) := by decide +kernel
theorem dL_law_585 : decode cL_law 585 = .ok (.aload_n 0, 1) := by decide +kernel
theorem dL_law_586 : decode cL_law 586 = .ok (.iload_n 3, 1) := by decide +kernel
theorem dL_law_587 : decode cL_law 587 = .ok (.iconst 2, 1) := by decide +kernel
theorem dL_law_588 : decode cL_law 588 = .ok (.iadd, 1) := by decide +kernel
theorem dL_law_589 : decode cL_law 589 = .ok (.iaload, 1) := by decide +kernel
theorem dL_law_590 : decode cL_law 590 = .ok (.invokevirtual 80, 3) := by decide +kernel
theorem dL_law_593 : decode cL_law 593 = .ok (.if_icmp .eq 241, 3) := by decide +kernel
theorem dL_law_596 : decode cL_law 596 = .ok (.iconst 0, 1) := by decide +kernel
theorem dL_law_597 : decode cL_law 597 = .ok (.ireturn, 1) := by decide +kernel
theorem dL_law_598 : decode cL_law 598 = .ok (.aload_n 1, 1) := by decide +kernel
theorem dL_law_599 : decode cL_law 599 = .ok (.aload_n 0, 1) := by decide +kernel
theorem dL_law_600 : decode cL_law 600 = .ok (.iload_n 3, 1) := by decide +kernel
theorem dL_law_601 : decode cL_law 601 = .ok (.iconst 1, 1) := by decide +kernel
theorem dL_law_602 : decode cL_law 602 = .ok (.iadd, 1) := by decide +kernel
theorem dL_law_603 : decode cL_law 603 = .ok (.iaload, 1) := by decide +kernel
theorem dL_law_604 : decode cL_law 604 = .ok (.aload_n 0, 1) := by decide +kernel
theorem dL_law_605 : decode cL_law 605 = .ok (.iload_n 3, 1) := by decide +kernel
theorem dL_law_606 : decode cL_law 606 = .ok (.iconst 2, 1) := by decide +kernel
theorem dL_law_607 : decode cL_law 607 = .ok (.iadd, 1) := by decide +kernel
theorem dL_law_608 : decode cL_law 608 = .ok (.iaload, 1) := by decide +kernel
theorem dL_law_609 : decode cL_law 609 = .ok (.invokevirtual 81, 3) := by decide +kernel
theorem dL_law_612 : decode cL_law 612 = .ok (.aload_n 2, 1) := by decide +kernel
theorem dL_law_613 : decode cL_law 613 = .ok (.aload_n 0, 1) := by decide +kernel
theorem dL_law_614 : decode cL_law 614 = .ok (.iload_n 3, 1) := by decide +kernel
theorem dL_law_615 : decode cL_law 615 = .ok (.iconst 1, 1) := by decide +kernel
theorem dL_law_616 : decode cL_law 616 = .ok (.iadd, 1) := by decide +kernel
theorem dL_law_617 : decode cL_law 617 = .ok (.iaload, 1) := by decide +kernel
theorem dL_law_618 : decode cL_law 618 = .ok (.aload_n 0, 1) := by decide +kernel
theorem dL_law_619 : decode cL_law 619 = .ok (.iload_n 3, 1) := by decide +kernel
theorem dL_law_620 : decode cL_law 620 = .ok (.iconst 2, 1) := by decide +kernel
theorem dL_law_621 : decode cL_law 621 = .ok (.iadd, 1) := by decide +kernel
theorem dL_law_622 : decode cL_law 622 = .ok (.iaload, 1) := by decide +kernel
theorem dL_law_623 : decode cL_law 623 = .ok (.invokevirtual 84, 3) := by decide +kernel
theorem dL_law_626 : decode cL_law 626 = .ok (.if_icmp .eq 208, 3) := by decide +kernel
theorem dL_law_629 : decode cL_law 629 = .ok (.iconst 0, 1) := by decide +kernel
theorem dL_law_630 : decode cL_law 630 = .ok (.ireturn, 1) := by decide +kernel
theorem dL_law_631 : decode cL_law 631 = .ok (.aload_n 1, 1) := by decide +kernel
theorem dL_law_632 : decode cL_law 632 = .ok (.aload_n 0, 1) := by decide +kernel
theorem dL_law_633 : decode cL_law 633 = .ok (.iload_n 3, 1) := by decide +kernel
theorem dL_law_634 : decode cL_law 634 = .ok (.iconst 1, 1) := by decide +kernel
theorem dL_law_635 : decode cL_law 635 = .ok (.iadd, 1) := by decide +kernel
theorem dL_law_636 : decode cL_law 636 = .ok (.iaload, 1) := by decide +kernel
theorem dL_law_637 : decode cL_law 637 = .ok (.invokevirtual 85, 3) := by decide +kernel
theorem dL_law_640 : decode cL_law 640 = .ok (.aload_n 2, 1) := by decide +kernel
theorem dL_law_641 : decode cL_law 641 = .ok (.aload_n 0, 1) := by decide +kernel
theorem dL_law_642 : decode cL_law 642 = .ok (.iload_n 3, 1) := by decide +kernel
theorem dL_law_643 : decode cL_law 643 = .ok (.iconst 1, 1) := by decide +kernel
theorem dL_law_644 : decode cL_law 644 = .ok (.iadd, 1) := by decide +kernel
theorem dL_law_645 : decode cL_law 645 = .ok (.iaload, 1) := by decide +kernel
theorem dL_law_646 : decode cL_law 646 = .ok (.invokevirtual 88, 3) := by decide +kernel
theorem dL_law_649 : decode cL_law 649 = .ok (.if_icmp .eq 185, 3) := by decide +kernel
theorem dL_law_652 : decode cL_law 652 = .ok (.iconst 0, 1) := by decide +kernel
theorem dL_law_653 : decode cL_law 653 = .ok (.ireturn, 1) := by decide +kernel
theorem dL_law_654 : decode cL_law 654 = .ok (.aload_n 1, 1) := by decide +kernel
theorem dL_law_655 : decode cL_law 655 = .ok (.aload_n 0, 1) := by decide +kernel
theorem dL_law_656 : decode cL_law 656 = .ok (.iload_n 3, 1) := by decide +kernel
theorem dL_law_657 : decode cL_law 657 = .ok (.iconst 1, 1) := by decide +kernel
theorem dL_law_658 : decode cL_law 658 = .ok (.iadd, 1) := by decide +kernel
theorem dL_law_659 : decode cL_law 659 = .ok (.iaload, 1) := by decide +kernel
theorem dL_law_660 : decode cL_law 660 = .ok (.invokevirtual 89, 3) := by decide +kernel
theorem dL_law_663 : decode cL_law 663 = .ok (.aload_n 2, 1) := by decide +kernel
theorem dL_law_664 : decode cL_law 664 = .ok (.aload_n 0, 1) := by decide +kernel
theorem dL_law_665 : decode cL_law 665 = .ok (.iload_n 3, 1) := by decide +kernel
theorem dL_law_666 : decode cL_law 666 = .ok (.iconst 1, 1) := by decide +kernel
theorem dL_law_667 : decode cL_law 667 = .ok (.iadd, 1) := by decide +kernel
theorem dL_law_668 : decode cL_law 668 = .ok (.iaload, 1) := by decide +kernel
theorem dL_law_669 : decode cL_law 669 = .ok (.invokevirtual 92, 3) := by decide +kernel
theorem dL_law_672 : decode cL_law 672 = .ok (.if_icmp .eq 162, 3) := by decide +kernel
theorem dL_law_675 : decode cL_law 675 = .ok (.iconst 0, 1) := by decide +kernel
theorem dL_law_676 : decode cL_law 676 = .ok (.ireturn, 1) := by decide +kernel
theorem dL_law_677 : decode cL_law 677 = .ok (.aload_n 1, 1) := by decide +kernel
theorem dL_law_678 : decode cL_law 678 = .ok (.aload_n 0, 1) := by decide +kernel
theorem dL_law_679 : decode cL_law 679 = .ok (.iload_n 3, 1) := by decide +kernel
theorem dL_law_680 : decode cL_law 680 = .ok (.iconst 1, 1) := by decide +kernel
theorem dL_law_681 : decode cL_law 681 = .ok (.iadd, 1) := by decide +kernel
theorem dL_law_682 : decode cL_law 682 = .ok (.iaload, 1) := by decide +kernel
theorem dL_law_683 : decode cL_law 683 = .ok (.invokevirtual 93, 3) := by decide +kernel
theorem dL_law_686 : decode cL_law 686 = .ok (.aload_n 2, 1) := by decide +kernel
theorem dL_law_687 : decode cL_law 687 = .ok (.aload_n 0, 1) := by decide +kernel
theorem dL_law_688 : decode cL_law 688 = .ok (.iload_n 3, 1) := by decide +kernel
theorem dL_law_689 : decode cL_law 689 = .ok (.iconst 1, 1) := by decide +kernel
theorem dL_law_690 : decode cL_law 690 = .ok (.iadd, 1) := by decide +kernel
theorem dL_law_691 : decode cL_law 691 = .ok (.iaload, 1) := by decide +kernel
theorem dL_law_692 : decode cL_law 692 = .ok (.invokevirtual 96, 3) := by decide +kernel
theorem dL_law_695 : decode cL_law 695 = .ok (.if_icmp .eq 139, 3) := by decide +kernel
theorem dL_law_698 : decode cL_law 698 = .ok (.iconst 0, 1) := by decide +kernel
theorem dL_law_699 : decode cL_law 699 = .ok (.ireturn, 1) := by decide +kernel
theorem dL_law_700 : decode cL_law 700 = .ok (.aload_n 1, 1) := by decide +kernel
theorem dL_law_701 : decode cL_law 701 = .ok (.invokevirtual 97, 3) := by decide +kernel
theorem dL_law_704 : decode cL_law 704 = .ok (.aload_n 2, 1) := by decide +kernel
theorem dL_law_705 : decode cL_law 705 = .ok (.invokevirtual 100, 3) := by decide +kernel
theorem dL_law_708 : decode cL_law 708 = .ok (.if_icmp .eq 126, 3) := by decide +kernel
theorem dL_law_711 : decode cL_law 711 = .ok (.iconst 0, 1) := by decide +kernel
theorem dL_law_712 : decode cL_law 712 = .ok (.ireturn, 1) := by decide +kernel
theorem dL_law_713 : decode cL_law 713 = .ok (.aload_n 1, 1) := by decide +kernel
theorem dL_law_714 : decode cL_law 714 = .ok (.invokevirtual 101, 3) := by decide +kernel
theorem dL_law_717 : decode cL_law 717 = .ok (.aload_n 2, 1) := by decide +kernel
theorem dL_law_718 : decode cL_law 718 = .ok (.invokevirtual 104, 3) := by decide +kernel
theorem dL_law_721 : decode cL_law 721 = .ok (.if_icmp .eq 113, 3) := by decide +kernel
theorem dL_law_724 : decode cL_law 724 = .ok (.iconst 0, 1) := by decide +kernel
theorem dL_law_725 : decode cL_law 725 = .ok (.ireturn, 1) := by decide +kernel
theorem dL_law_726 : decode cL_law 726 = .ok (.aload_n 1, 1) := by decide +kernel
theorem dL_law_727 : decode cL_law 727 = .ok (.invokevirtual 105, 3) := by decide +kernel
theorem dL_law_730 : decode cL_law 730 = .ok (.aload_n 2, 1) := by decide +kernel
theorem dL_law_731 : decode cL_law 731 = .ok (.invokevirtual 108, 3) := by decide +kernel
theorem dL_law_734 : decode cL_law 734 = .ok (.if_icmp .eq 100, 3) := by decide +kernel
theorem dL_law_737 : decode cL_law 737 = .ok (.iconst 0, 1) := by decide +kernel
theorem dL_law_738 : decode cL_law 738 = .ok (.ireturn, 1) := by decide +kernel
theorem dL_law_739 : decode cL_law 739 = .ok (.aload_n 1, 1) := by decide +kernel
theorem dL_law_740 : decode cL_law 740 = .ok (.invokevirtual 109, 3) := by decide +kernel
theorem dL_law_743 : decode cL_law 743 = .ok (.aload_n 2, 1) := by decide +kernel
theorem dL_law_744 : decode cL_law 744 = .ok (.invokevirtual 112, 3) := by decide +kernel
theorem dL_law_747 : decode cL_law 747 = .ok (.if_icmp .eq 87, 3) := by decide +kernel
theorem dL_law_750 : decode cL_law 750 = .ok (.iconst 0, 1) := by decide +kernel
theorem dL_law_751 : decode cL_law 751 = .ok (.ireturn, 1) := by decide +kernel
theorem dL_law_752 : decode cL_law 752 = .ok (.aload_n 1, 1) := by decide +kernel
theorem dL_law_753 : decode cL_law 753 = .ok (.aload_n 0, 1) := by decide +kernel
theorem dL_law_754 : decode cL_law 754 = .ok (.iload_n 3, 1) := by decide +kernel
theorem dL_law_755 : decode cL_law 755 = .ok (.iconst 1, 1) := by decide +kernel
theorem dL_law_756 : decode cL_law 756 = .ok (.iadd, 1) := by decide +kernel
theorem dL_law_757 : decode cL_law 757 = .ok (.iaload, 1) := by decide +kernel
theorem dL_law_758 : decode cL_law 758 = .ok (.aload_n 0, 1) := by decide +kernel
theorem dL_law_759 : decode cL_law 759 = .ok (.iload_n 3, 1) := by decide +kernel
theorem dL_law_760 : decode cL_law 760 = .ok (.iconst 2, 1) := by decide +kernel
theorem dL_law_761 : decode cL_law 761 = .ok (.iadd, 1) := by decide +kernel
theorem dL_law_762 : decode cL_law 762 = .ok (.iaload, 1) := by decide +kernel
theorem dL_law_763 : decode cL_law 763 = .ok (.invokevirtual 113, 3) := by decide +kernel
theorem dL_law_766 : decode cL_law 766 = .ok (.aload_n 2, 1) := by decide +kernel
theorem dL_law_767 : decode cL_law 767 = .ok (.aload_n 0, 1) := by decide +kernel
theorem dL_law_768 : decode cL_law 768 = .ok (.iload_n 3, 1) := by decide +kernel
theorem dL_law_769 : decode cL_law 769 = .ok (.iconst 1, 1) := by decide +kernel
theorem dL_law_770 : decode cL_law 770 = .ok (.iadd, 1) := by decide +kernel
theorem dL_law_771 : decode cL_law 771 = .ok (.iaload, 1) := by decide +kernel
theorem dL_law_772 : decode cL_law 772 = .ok (.aload_n 0, 1) := by decide +kernel
theorem dL_law_773 : decode cL_law 773 = .ok (.iload_n 3, 1) := by decide +kernel
theorem dL_law_774 : decode cL_law 774 = .ok (.iconst 2, 1) := by decide +kernel
theorem dL_law_775 : decode cL_law 775 = .ok (.iadd, 1) := by decide +kernel
theorem dL_law_776 : decode cL_law 776 = .ok (.iaload, 1) := by decide +kernel
theorem dL_law_777 : decode cL_law 777 = .ok (.invokevirtual 116, 3) := by decide +kernel
theorem dL_law_780 : decode cL_law 780 = .ok (.if_icmp .eq 54, 3) := by decide +kernel
theorem dL_law_783 : decode cL_law 783 = .ok (.iconst 0, 1) := by decide +kernel
theorem dL_law_784 : decode cL_law 784 = .ok (.ireturn, 1) := by decide +kernel
theorem dL_law_785 : decode cL_law 785 = .ok (.aload_n 1, 1) := by decide +kernel
theorem dL_law_786 : decode cL_law 786 = .ok (.invokevirtual 117, 3) := by decide +kernel
theorem dL_law_789 : decode cL_law 789 = .ok (.aload_n 2, 1) := by decide +kernel
theorem dL_law_790 : decode cL_law 790 = .ok (.invokevirtual 120, 3) := by decide +kernel
theorem dL_law_793 : decode cL_law 793 = .ok (.if_icmp .eq 41, 3) := by decide +kernel
theorem dL_law_796 : decode cL_law 796 = .ok (.iconst 0, 1) := by decide +kernel
theorem dL_law_797 : decode cL_law 797 = .ok (.ireturn, 1) := by decide +kernel
theorem dL_law_798 : decode cL_law 798 = .ok (.aload_n 1, 1) := by decide +kernel
theorem dL_law_799 : decode cL_law 799 = .ok (.invokevirtual 121, 3) := by decide +kernel
theorem dL_law_802 : decode cL_law 802 = .ok (.aload_n 2, 1) := by decide +kernel
theorem dL_law_803 : decode cL_law 803 = .ok (.invokevirtual 124, 3) := by decide +kernel
theorem dL_law_806 : decode cL_law 806 = .ok (.if_icmp .eq 28, 3) := by decide +kernel
theorem dL_law_809 : decode cL_law 809 = .ok (.iconst 0, 1) := by decide +kernel
theorem dL_law_810 : decode cL_law 810 = .ok (.ireturn, 1) := by decide +kernel
theorem dL_law_811 : decode cL_law 811 = .ok (.aload_n 1, 1) := by decide +kernel
theorem dL_law_812 : decode cL_law 812 = .ok (.aload_n 0, 1) := by decide +kernel
theorem dL_law_813 : decode cL_law 813 = .ok (.iload_n 3, 1) := by decide +kernel
theorem dL_law_814 : decode cL_law 814 = .ok (.iconst 1, 1) := by decide +kernel
theorem dL_law_815 : decode cL_law 815 = .ok (.iadd, 1) := by decide +kernel
theorem dL_law_816 : decode cL_law 816 = .ok (.iaload, 1) := by decide +kernel
theorem dL_law_817 : decode cL_law 817 = .ok (.invokevirtual 125, 3) := by decide +kernel
theorem dL_law_820 : decode cL_law 820 = .ok (.aload_n 2, 1) := by decide +kernel
theorem dL_law_821 : decode cL_law 821 = .ok (.aload_n 0, 1) := by decide +kernel
theorem dL_law_822 : decode cL_law 822 = .ok (.iload_n 3, 1) := by decide +kernel
theorem dL_law_823 : decode cL_law 823 = .ok (.iconst 1, 1) := by decide +kernel
theorem dL_law_824 : decode cL_law 824 = .ok (.iadd, 1) := by decide +kernel
theorem dL_law_825 : decode cL_law 825 = .ok (.iaload, 1) := by decide +kernel
theorem dL_law_826 : decode cL_law 826 = .ok (.invokevirtual 128, 3) := by decide +kernel
theorem dL_law_829 : decode cL_law 829 = .ok (.if_icmp .eq 5, 3) := by decide +kernel
theorem dL_law_832 : decode cL_law 832 = .ok (.iconst 0, 1) := by decide +kernel
theorem dL_law_833 : decode cL_law 833 = .ok (.ireturn, 1) := by decide +kernel
theorem dL_law_834 : decode cL_law 834 = .ok (.iinc 3 4, 3) := by decide +kernel
theorem dL_law_837 : decode cL_law 837 = .ok (.goto (-819), 3) := by decide +kernel
theorem dL_law_840 : decode cL_law 840 = .ok (.iconst 1, 1) := by decide +kernel
theorem dL_law_841 : decode cL_law 841 = .ok (.ireturn, 1) := by decide +kernel
abbrev vwCl : List vw_C := [(RX0, TX0, 7), (RX1, TX1, 3), (RX2, TX2, 6), (RX3, TX3, 1), (RX4, TX4, 3), (RX5, TX5, 3), (RX6, TX6, 8), (RX7, TX7, 33)]
