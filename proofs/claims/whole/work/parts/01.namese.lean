theorem dX7_judged_23 : decode cX7_judged 23 = .ok (.aload_n 0, 1) := by decide +kernel
theorem dX7_judged_24 : decode cX7_judged 24 = .ok (.getfield 58, 3) := by decide +kernel
theorem dX7_judged_27 : decode cX7_judged 27 = .ok (.aload_n 0, 1) := by decide +kernel
theorem dX7_judged_28 : decode cX7_judged 28 = .ok (.getfield 61, 3) := by decide +kernel
theorem dX7_judged_31 : decode cX7_judged 31 = .ok (.iload_n 2, 1) := by decide +kernel
theorem dX7_judged_32 : decode cX7_judged 32 = .ok (.iaload, 1) := by decide +kernel
theorem dX7_judged_33 : decode cX7_judged 33 = .ok (.iaload, 1) := by decide +kernel
theorem dX7_judged_34 : decode cX7_judged 34 = .ok (.bipush 10, 2) := by decide +kernel
theorem dX7_judged_36 : decode cX7_judged 36 = .ok (.idiv, 1) := by decide +kernel
theorem dX7_judged_37 : decode cX7_judged 37 = .ok (.istore_n 3, 1) := by decide +kernel
theorem dX7_judged_38 : decode cX7_judged 38 = .ok (.aload_n 0, 1) := by decide +kernel
theorem dX7_judged_39 : decode cX7_judged 39 = .ok (.getfield 58, 3) := by decide +kernel
theorem dX7_judged_42 : decode cX7_judged 42 = .ok (.aload_n 0, 1) := by decide +kernel
theorem dX7_judged_43 : decode cX7_judged 43 = .ok (.getfield 61, 3) := by decide +kernel
theorem dX7_judged_46 : decode cX7_judged 46 = .ok (.iload_n 2, 1) := by decide +kernel
theorem dX7_judged_47 : decode cX7_judged 47 = .ok (.iaload, 1) := by decide +kernel
theorem dX7_judged_48 : decode cX7_judged 48 = .ok (.iaload, 1) := by decide +kernel
theorem dX7_judged_49 : decode cX7_judged 49 = .ok (.bipush 10, 2) := by decide +kernel
theorem dX7_judged_51 : decode cX7_judged 51 = .ok (.irem, 1) := by decide +kernel
theorem dX7_judged_52 : decode cX7_judged 52 = .ok (.istore 4, 2) := by decide +kernel
theorem dX7_judged_54 : decode cX7_judged 54 = .ok (.aload_n 0, 1) := by decide +kernel
theorem dX7_judged_55 : decode cX7_judged 55 = .ok (.iload_n 3, 1) := by decide +kernel
theorem dX7_judged_56 : decode cX7_judged 56 = .ok (.iload 4, 2) := by decide +kernel
theorem dX7_judged_58 : decode cX7_judged 58 = .ok (.invokevirtual 112, 3) := by decide +kernel
theorem dX7_judged_61 : decode cX7_judged 61 = .ok (.ifCond .eq 23, 3) := by decide +kernel
theorem dX7_judged_64 : decode cX7_judged 64 = .ok (.aload_n 0, 1) := by decide +kernel
theorem dX7_judged_65 : decode cX7_judged 65 = .ok (.iload_n 3, 1) := by decide +kernel
theorem dX7_judged_66 : decode cX7_judged 66 = .ok (.iload 4, 2) := by decide +kernel
theorem dX7_judged_68 : decode cX7_judged 68 = .ok (.invokevirtual 171, 3) := by decide +kernel
theorem dX7_judged_71 : decode cX7_judged 71 = .ok (.ifCond .eq 13, 3) := by decide +kernel
theorem dX7_judged_74 : decode cX7_judged 74 = .ok (.aload_n 0, 1) := by decide +kernel
theorem dX7_judged_75 : decode cX7_judged 75 = .ok (.iload_n 3, 1) := by decide +kernel
theorem dX7_judged_76 : decode cX7_judged 76 = .ok (.iload 4, 2) := by decide +kernel
theorem dX7_judged_78 : decode cX7_judged 78 = .ok (.invokevirtual 234, 3) := by decide +kernel
theorem dX7_judged_81 : decode cX7_judged 81 = .ok (.goto 5, 3) := by decide +kernel
theorem dX7_judged_84 : decode cX7_judged 84 = .ok (.iload_n 2, 1) := by decide +kernel
theorem dX7_judged_85 : decode cX7_judged 85 = .ok (.istore_n 1, 1) := by decide +kernel
theorem dX7_judged_86 : decode cX7_judged 86 = .ok (.iinc 2 1, 3) := by decide +kernel
theorem dX7_judged_89 : decode cX7_judged 89 = .ok (.goto (-78), 3) := by decide +kernel
theorem dX7_judged_92 : decode cX7_judged 92 = .ok (.aload_n 0, 1) := by decide +kernel
theorem dX7_judged_93 : decode cX7_judged 93 = .ok (.iconst 1, 1) := by decide +kernel
theorem dX7_judged_94 : decode cX7_judged 94 = .ok (.iconst 0, 1) := by decide +kernel
theorem dX7_judged_95 : decode cX7_judged 95 = .ok (.invokevirtual 124, 3) := by decide +kernel
theorem dX7_judged_98 : decode cX7_judged 98 = .ok (.iload_n 1, 1) := by decide +kernel
theorem dX7_judged_99 : decode cX7_judged 99 = .ok (.ireturn, 1) := by decide +kernel
set_option maxRecDepth 20000 in
theorem ggX7_judge_X7_judged : GoodIn wsX7_judge wsX7_judged := goodIn_r _ [7, 1, 8, 2, 9, 10, 11, 6, 12, 13, 14, 15, 16, 17, 18, 19, 20, 21, 22, 23, 24, 25, 26, 27, 28, 29, 30, 31, 32, 33, 34, 35, 36, 37, 38, 39, 40, 41, 42, 43, 44, 45, 46, 47, 48, 49, 50, 51, 52, 53, 54, 55, 56, 57, 58, 59, 60, 61, 62, 63, 64, 65, 66, 67, 68, 69, 70, 71, 72, 73, 74, 75, 76, 77, 78, 79, 80, 81, 82, 83, 84, 85, 86, 87, 88, 89, 90, 91, 92, 93, 94, 95, 96, 97, 98, 99, 100, 101, 102, 103, 104, 105, 106, 107, 108] (by decide +kernel) (by decide +kernel)
set_option maxRecDepth 20000 in
theorem gX7_judge_X7_judged : GoodIn wsX7_judge (wsV RX7 237 RX7 yX7_judged wsX7_judged) := goodIn_app (goodIn_of _ (by decide +kernel)) ggX7_judge_X7_judged
theorem dX7_judge_0 : decode cX7_judge 0 = .ok (.iconst 0, 1) := by decide +kernel
theorem dX7_judge_1 : decode cX7_judge 1 = .ok (.istore_n 1, 1) := by decide +kernel
theorem dX7_judge_2 : decode cX7_judge 2 = .ok (.iload_n 1, 1) := by decide +kernel
theorem dX7_judge_3 : decode cX7_judge 3 = .ok (.aload_n 0, 1) := by decide +kernel
theorem dX7_judge_4 : decode cX7_judge 4 = .ok (.getfield 231, 3) := by decide +kernel
theorem dX7_judge_7 : decode cX7_judge 7 = .ok (.if_icmp .ge 16, 3) := by decide +kernel
theorem dX7_judge_10 : decode cX7_judge 10 = .ok (.aload_n 0, 1) := by decide +kernel
theorem dX7_judge_11 : decode cX7_judge 11 = .ok (.getfield 61, 3) := by decide +kernel
theorem dX7_judge_14 : decode cX7_judge 14 = .ok (.iload_n 1, 1) := by decide +kernel
theorem dX7_judge_15 : decode cX7_judge 15 = .ok (.iload_n 1, 1) := by decide +kernel
theorem dX7_judge_16 : decode cX7_judge 16 = .ok (.iastore, 1) := by decide +kernel
theorem dX7_judge_17 : decode cX7_judge 17 = .ok (.iinc 1 1, 3) := by decide +kernel
theorem dX7_judge_20 : decode cX7_judge 20 = .ok (.goto (-18), 3) := by decide +kernel
theorem dX7_judge_23 : decode cX7_judge 23 = .ok (.aload_n 0, 1) := by decide +kernel
theorem dX7_judge_24 : decode cX7_judge 24 = .ok (.invokevirtual 237, 3) := by decide +kernel
theorem dX7_judge_27 : decode cX7_judge 27 = .ok (.ireturn, 1) := by decide +kernel
set_option maxRecDepth 20000 in
theorem ggX7_loadBy_X7_passesAll : GoodIn wsX7_loadBy wsX7_passesAll := goodIn_r _ [10, 11, 12, 13, 14, 15, 16, 17, 18, 19, 20, 21, 9, 22, 23, 24, 25, 26, 27, 74, 75, 76, 77, 78, 79, 80, 81, 82, 83, 84, 85, 86, 87, 88, 89, 90, 91, 92, 93, 94, 95, 96, 97, 98, 99, 100, 101, 102, 103, 104, 105, 106] (by decide +kernel) (by decide +kernel)
set_option maxRecDepth 20000 in
theorem gX7_loadBy_X7_passesAll : GoodIn wsX7_loadBy (wsV RX7 124 RX7 yX7_passesAll wsX7_passesAll) := goodIn_app (goodIn_of _ (by decide +kernel)) ggX7_loadBy_X7_passesAll
set_option maxRecDepth 20000 in
theorem ggX7_loadBy_X7_areTwo : GoodIn wsX7_loadBy wsX7_areTwo := goodIn_r _ [31, 32, 33, 34, 9, 35, 17, 74, 75, 76, 77, 78, 79, 80, 81, 82, 83, 84, 85, 86, 87, 88, 89, 90, 91, 92, 93, 94, 95, 96, 97, 98, 99, 100, 101, 102, 103, 104, 105, 106] (by decide +kernel) (by decide +kernel)
set_option maxRecDepth 20000 in
theorem gX7_loadBy_X7_areTwo : GoodIn wsX7_loadBy (wsV RX7 112 RX7 yX7_areTwo wsX7_areTwo) := goodIn_app (goodIn_of _ (by decide +kernel)) ggX7_loadBy_X7_areTwo
set_option maxRecDepth 20000 in
theorem ggX7_loadBy_X7_mayDance : GoodIn wsX7_loadBy wsX7_mayDance := goodIn_r _ [39, 18, 40, 41, 42, 9, 43, 16, 44, 45, 46, 47, 13, 14, 48, 49, 50, 51, 17, 52, 53, 54, 55, 15, 56, 57, 58, 74, 75, 76, 77, 78, 79, 80, 81, 82, 83, 84, 85, 86, 87, 88, 89, 90, 91, 92, 93, 94, 95, 96, 97, 98, 99, 100, 101, 102, 103, 104, 105, 106] (by decide +kernel) (by decide +kernel)
set_option maxRecDepth 20000 in
theorem gX7_loadBy_X7_mayDance : GoodIn wsX7_loadBy (wsV RX7 171 RX7 yX7_mayDance wsX7_mayDance) := goodIn_app (goodIn_of _ (by decide +kernel)) ggX7_loadBy_X7_mayDance
set_option maxRecDepth 20000 in
theorem ggX7_loadBy_X7_areCousins : GoodIn wsX7_loadBy wsX7_areCousins := goodIn_r _ [47, 13, 14, 74, 75, 76, 77, 78, 79, 80, 81, 82, 83, 84, 85, 86, 87, 88, 89, 90, 91, 92, 93, 94, 95, 96, 97, 98, 99, 100, 101, 102, 103, 104, 105, 106] (by decide +kernel) (by decide +kernel)
set_option maxRecDepth 20000 in
theorem gX7_loadBy_X7_areCousins : GoodIn wsX7_loadBy (wsV RX7 157 RX7 yX7_areCousins wsX7_areCousins) := goodIn_app (goodIn_of _ (by decide +kernel)) ggX7_loadBy_X7_areCousins
set_option maxRecDepth 20000 in
theorem ggX7_loadBy_X7_canBy : GoodIn wsX7_loadBy wsX7_canBy := goodIn_r _ [62, 44, 45, 46, 9, 47, 13, 14, 32, 33, 34, 35, 17, 48, 49, 50, 51, 18, 52, 53, 54, 55, 15, 16, 40, 41, 42, 43, 56, 57, 58, 74, 75, 76, 77, 78, 79, 80, 81, 82, 83, 84, 85, 86, 87, 88, 89, 90, 91, 92, 93, 94, 95, 96, 97, 98, 99, 100, 101, 102, 103, 104, 105, 106] (by decide +kernel) (by decide +kernel)
set_option maxRecDepth 20000 in
theorem gX7_loadBy_X7_canBy : GoodIn wsX7_loadBy (wsV RX7 174 RX7 yX7_canBy wsX7_canBy) := goodIn_app (goodIn_of _ (by decide +kernel)) ggX7_loadBy_X7_canBy
set_option maxRecDepth 20000 in
theorem ggX7_loadBy_X7_dances : GoodIn wsX7_loadBy wsX7_dances := goodIn_r _ [66, 15, 18, 48, 49, 50, 9, 51, 17, 52, 53, 54, 55, 14, 13, 16, 40, 41, 42, 43, 56, 57, 58, 67, 68, 69, 70, 71, 72, 73, 74, 75, 76, 77, 78, 79, 80, 81, 82, 83, 84, 85, 86, 87, 88, 89, 90, 91, 92, 93, 94, 95, 96, 97, 98, 99, 100, 101, 102, 103, 104, 105, 106] (by decide +kernel) (by decide +kernel)
set_option maxRecDepth 20000 in
theorem gX7_loadBy_X7_dances : GoodIn wsX7_loadBy (wsV RX7 167 RX7 yX7_dances wsX7_dances) := goodIn_app (goodIn_of _ (by decide +kernel)) ggX7_loadBy_X7_dances
theorem dX7_loadBy_0 : decode cX7_loadBy 0 = .ok (.aload_n 0, 1) := by decide +kernel
theorem dX7_loadBy_1 : decode cX7_loadBy 1 = .ok (.iconst 1, 1) := by decide +kernel
theorem dX7_loadBy_2 : decode cX7_loadBy 2 = .ok (.iconst 1, 1) := by decide +kernel
theorem dX7_loadBy_3 : decode cX7_loadBy 3 = .ok (.invokevirtual 124, 3) := by decide +kernel
theorem dX7_loadBy_6 : decode cX7_loadBy 6 = .ok (.iconst 0, 1) := by decide +kernel
theorem dX7_loadBy_7 : decode cX7_loadBy 7 = .ok (.istore_n 1, 1) := by decide +kernel
theorem dX7_loadBy_8 : decode cX7_loadBy 8 = .ok (.iload_n 1, 1) := by decide +kernel
theorem dX7_loadBy_9 : decode cX7_loadBy 9 = .ok (.bipush 8, 2) := by decide +kernel
theorem dX7_loadBy_11 : decode cX7_loadBy 11 = .ok (.if_icmp .ge 16, 3) := by decide +kernel
theorem dX7_loadBy_14 : decode cX7_loadBy 14 = .ok (.aload_n 0, 1) := by decide +kernel
theorem dX7_loadBy_15 : decode cX7_loadBy 15 = .ok (.getfield 67, 3) := by decide +kernel
theorem dX7_loadBy_18 : decode cX7_loadBy 18 = .ok (.iload_n 1, 1) := by decide +kernel
theorem dX7_loadBy_19 : decode cX7_loadBy 19 = .ok (.iconst 0, 1) := by decide +kernel
theorem dX7_loadBy_20 : decode cX7_loadBy 20 = .ok (.iastore, 1) := by decide +kernel
theorem dX7_loadBy_21 : decode cX7_loadBy 21 = .ok (.iinc 1 1, 3) := by decide +kernel
theorem dX7_loadBy_24 : decode cX7_loadBy 24 = .ok (.goto (-16), 3) := by decide +kernel
theorem dX7_loadBy_27 : decode cX7_loadBy 27 = .ok (.iconst 0, 1) := by decide +kernel
theorem dX7_loadBy_28 : decode cX7_loadBy 28 = .ok (.istore_n 1, 1) := by decide +kernel
theorem dX7_loadBy_29 : decode cX7_loadBy 29 = .ok (.aload_n 0, 1) := by decide +kernel
theorem dX7_loadBy_30 : decode cX7_loadBy 30 = .ok (.aload_n 0, 1) := by decide +kernel
theorem dX7_loadBy_31 : decode cX7_loadBy 31 = .ok (.getfield 231, 3) := by decide +kernel
theorem dX7_loadBy_34 : decode cX7_loadBy 34 = .ok (.putfield 240, 3) := by decide +kernel
theorem dX7_loadBy_37 : decode cX7_loadBy 37 = .ok (.iconst 0, 1) := by decide +kernel
theorem dX7_loadBy_38 : decode cX7_loadBy 38 = .ok (.istore_n 2, 1) := by decide +kernel
theorem dX7_loadBy_39 : decode cX7_loadBy 39 = .ok (.iload_n 2, 1) := by decide +kernel
theorem dX7_loadBy_40 : decode cX7_loadBy 40 = .ok (.aload_n 0, 1) := by decide +kernel
theorem dX7_loadBy_41 : decode cX7_loadBy 41 = .ok (.getfield 231, 3) := by decide +kernel
theorem dX7_loadBy_44 : decode cX7_loadBy 44 = .ok (.if_icmp .ge 215, 3) := by decide +kernel
theorem dX7_loadBy_47 : decode cX7_loadBy 47 = .ok (.aload_n 0, 1) := by decide +kernel
theorem dX7_loadBy_48 : decode cX7_loadBy 48 = .ok (.getfield 240, 3) := by decide +kernel
theorem dX7_loadBy_51 : decode cX7_loadBy 51 = .ok (.aload_n 0, 1) := by decide +kernel
theorem dX7_loadBy_52 : decode cX7_loadBy 52 = .ok (.getfield 231, 3) := by decide +kernel
theorem dX7_loadBy_55 : decode cX7_loadBy 55 = .ok (.if_icmp .ne 204, 3) := by decide +kernel
theorem dX7_loadBy_58 : decode cX7_loadBy 58 = .ok (.aload_n 0, 1) := by decide +kernel
theorem dX7_loadBy_59 : decode cX7_loadBy 59 = .ok (.getfield 58, 3) := by decide +kernel
theorem dX7_loadBy_62 : decode cX7_loadBy 62 = .ok (.iload_n 2, 1) := by decide +kernel
theorem dX7_loadBy_63 : decode cX7_loadBy 63 = .ok (.iaload, 1) := by decide +kernel
theorem dX7_loadBy_64 : decode cX7_loadBy 64 = .ok (.bipush 10, 2) := by decide +kernel
theorem dX7_loadBy_66 : decode cX7_loadBy 66 = .ok (.idiv, 1) := by decide +kernel
theorem dX7_loadBy_67 : decode cX7_loadBy 67 = .ok (.istore_n 3, 1) := by decide +kernel
theorem dX7_loadBy_68 : decode cX7_loadBy 68 = .ok (.aload_n 0, 1) := by decide +kernel
theorem dX7_loadBy_69 : decode cX7_loadBy 69 = .ok (.getfield 58, 3) := by decide +kernel
theorem dX7_loadBy_72 : decode cX7_loadBy 72 = .ok (.iload_n 2, 1) := by decide +kernel
theorem dX7_loadBy_73 : decode cX7_loadBy 73 = .ok (.iaload, 1) := by decide +kernel
theorem dX7_loadBy_74 : decode cX7_loadBy 74 = .ok (.bipush 10, 2) := by decide +kernel
theorem dX7_loadBy_76 : decode cX7_loadBy 76 = .ok (.irem, 1) := by decide +kernel
theorem dX7_loadBy_77 : decode cX7_loadBy 77 = .ok (.istore 4, 2) := by decide +kernel
theorem dX7_loadBy_79 : decode cX7_loadBy 79 = .ok (.aload_n 0, 1) := by decide +kernel
theorem dX7_loadBy_80 : decode cX7_loadBy 80 = .ok (.iload_n 3, 1) := by decide +kernel
theorem dX7_loadBy_81 : decode cX7_loadBy 81 = .ok (.iload 4, 2) := by decide +kernel
theorem dX7_loadBy_83 : decode cX7_loadBy 83 = .ok (.invokevirtual 112, 3) := by decide +kernel
theorem dX7_loadBy_86 : decode cX7_loadBy 86 = .ok (.ifCond .eq 17, 3) := by decide +kernel
theorem dX7_loadBy_89 : decode cX7_loadBy 89 = .ok (.aload_n 0, 1) := by decide +kernel
theorem dX7_loadBy_90 : decode cX7_loadBy 90 = .ok (.iload_n 3, 1) := by decide +kernel
theorem dX7_loadBy_91 : decode cX7_loadBy 91 = .ok (.iload 4, 2) := by decide +kernel
theorem dX7_loadBy_93 : decode cX7_loadBy 93 = .ok (.invokevirtual 171, 3) := by decide +kernel
theorem dX7_loadBy_96 : decode cX7_loadBy 96 = .ok (.ifCond .eq 7, 3) := by decide +kernel
theorem dX7_loadBy_99 : decode cX7_loadBy 99 = .ok (.iconst 1, 1) := by decide +kernel
theorem dX7_loadBy_100 : decode cX7_loadBy 100 = .ok (.goto 4, 3) := by decide +kernel
theorem dX7_loadBy_103 : decode cX7_loadBy 103 = .ok (.iconst 0, 1) := by decide +kernel
theorem dX7_loadBy_104 : decode cX7_loadBy 104 = .ok (.istore 5, 2) := by decide +kernel
theorem dX7_loadBy_106 : decode cX7_loadBy 106 = .ok (.iload 5, 2) := by decide +kernel
theorem dX7_loadBy_108 : decode cX7_loadBy 108 = .ok (.ifCond .eq 17, 3) := by decide +kernel
theorem dX7_loadBy_111 : decode cX7_loadBy 111 = .ok (.aload_n 0, 1) := by decide +kernel
theorem dX7_loadBy_112 : decode cX7_loadBy 112 = .ok (.iload_n 3, 1) := by decide +kernel
theorem dX7_loadBy_113 : decode cX7_loadBy 113 = .ok (.iload 4, 2) := by decide +kernel
theorem dX7_loadBy_115 : decode cX7_loadBy 115 = .ok (.invokevirtual 157, 3) := by decide +kernel
theorem dX7_loadBy_118 : decode cX7_loadBy 118 = .ok (.ifCond .eq 7, 3) := by decide +kernel
theorem dX7_loadBy_121 : decode cX7_loadBy 121 = .ok (.iconst 1, 1) := by decide +kernel
theorem dX7_loadBy_122 : decode cX7_loadBy 122 = .ok (.goto 4, 3) := by decide +kernel
theorem dX7_loadBy_125 : decode cX7_loadBy 125 = .ok (.iconst 0, 1) := by decide +kernel
theorem dX7_loadBy_126 : decode cX7_loadBy 126 = .ok (.istore 6, 2) := by decide +kernel
theorem dX7_loadBy_128 : decode cX7_loadBy 128 = .ok (.iload 5, 2) := by decide +kernel
theorem dX7_loadBy_130 : decode cX7_loadBy 130 = .ok (.ifCond .eq 38, 3) := by decide +kernel
theorem dX7_loadBy_133 : decode cX7_loadBy 133 = .ok (.iload 6, 2) := by decide +kernel
theorem dX7_loadBy_135 : decode cX7_loadBy 135 = .ok (.ifCond .ne 19, 3) := by decide +kernel
theorem dX7_loadBy_138 : decode cX7_loadBy 138 = .ok (.aload_n 0, 1) := by decide +kernel
theorem dX7_loadBy_139 : decode cX7_loadBy 139 = .ok (.iload_n 3, 1) := by decide +kernel
theorem dX7_loadBy_140 : decode cX7_loadBy 140 = .ok (.iload 4, 2) := by decide +kernel
theorem dX7_loadBy_142 : decode cX7_loadBy 142 = .ok (.aload_n 0, 1) := by decide +kernel
theorem dX7_loadBy_143 : decode cX7_loadBy 143 = .ok (.getfield 64, 3) := by decide +kernel
theorem dX7_loadBy_146 : decode cX7_loadBy 146 = .ok (.iload_n 2, 1) := by decide +kernel
theorem dX7_loadBy_147 : decode cX7_loadBy 147 = .ok (.iaload, 1) := by decide +kernel
theorem dX7_loadBy_148 : decode cX7_loadBy 148 = .ok (.invokevirtual 174, 3) := by decide +kernel
theorem dX7_loadBy_151 : decode cX7_loadBy 151 = .ok (.ifCond .eq 17, 3) := by decide +kernel
theorem dX7_loadBy_154 : decode cX7_loadBy 154 = .ok (.iload 6, 2) := by decide +kernel
theorem dX7_loadBy_156 : decode cX7_loadBy 156 = .ok (.ifCond .eq 20, 3) := by decide +kernel
theorem dX7_loadBy_159 : decode cX7_loadBy 159 = .ok (.aload_n 0, 1) := by decide +kernel
theorem dX7_loadBy_160 : decode cX7_loadBy 160 = .ok (.getfield 64, 3) := by decide +kernel
theorem dX7_loadBy_163 : decode cX7_loadBy 163 = .ok (.iload_n 2, 1) := by decide +kernel
theorem dX7_loadBy_164 : decode cX7_loadBy 164 = .ok (.iaload, 1) := by decide +kernel
theorem dX7_loadBy_165 : decode cX7_loadBy 165 = .ok (.ifCond .le 11, 3) := by decide +kernel
theorem dX7_loadBy_168 : decode cX7_loadBy 168 = .ok (.aload_n 0, 1) := by decide +kernel
theorem dX7_loadBy_169 : decode cX7_loadBy 169 = .ok (.iload_n 2, 1) := by decide +kernel
theorem dX7_loadBy_170 : decode cX7_loadBy 170 = .ok (.putfield 240, 3) := by decide +kernel
theorem dX7_loadBy_173 : decode cX7_loadBy 173 = .ok (.goto 80, 3) := by decide +kernel
theorem dX7_loadBy_176 : decode cX7_loadBy 176 = .ok (.aload_n 0, 1) := by decide +kernel
theorem dX7_loadBy_177 : decode cX7_loadBy 177 = .ok (.iload_n 3, 1) := by decide +kernel
theorem dX7_loadBy_178 : decode cX7_loadBy 178 = .ok (.iload 4, 2) := by decide +kernel
theorem dX7_loadBy_180 : decode cX7_loadBy 180 = .ok (.iload 6, 2) := by decide +kernel
theorem dX7_loadBy_182 : decode cX7_loadBy 182 = .ok (.ifCond .eq 8, 3) := by decide +kernel
theorem dX7_loadBy_185 : decode cX7_loadBy 185 = .ok (.bipush 9, 2) := by decide +kernel
theorem dX7_loadBy_187 : decode cX7_loadBy 187 = .ok (.goto 9, 3) := by decide +kernel
theorem dX7_loadBy_190 : decode cX7_loadBy 190 = .ok (.aload_n 0, 1) := by decide +kernel
theorem dX7_loadBy_191 : decode cX7_loadBy 191 = .ok (.getfield 64, 3) := by decide +kernel
theorem dX7_loadBy_194 : decode cX7_loadBy 194 = .ok (.iload_n 2, 1) := by decide +kernel
theorem dX7_loadBy_195 : decode cX7_loadBy 195 = .ok (.iaload, 1) := by decide +kernel
theorem dX7_loadBy_196 : decode cX7_loadBy 196 = .ok (.invokevirtual 167, 3) := by decide +kernel
theorem dX7_loadBy_199 : decode cX7_loadBy 199 = .ok (.iload 6, 2) := by decide +kernel
theorem dX7_loadBy_201 : decode cX7_loadBy 201 = .ok (.ifCond .eq 6, 3) := by decide +kernel
theorem dX7_loadBy_204 : decode cX7_loadBy 204 = .ok (.goto 49, 3) := by decide +kernel
theorem dX7_loadBy_207 : decode cX7_loadBy 207 = .ok (.aload_n 0, 1) := by decide +kernel
theorem dX7_loadBy_208 : decode cX7_loadBy 208 = .ok (.getfield 67, 3) := by decide +kernel
theorem dX7_loadBy_211 : decode cX7_loadBy 211 = .ok (.aload_n 0, 1) := by decide +kernel
theorem dX7_loadBy_212 : decode cX7_loadBy 212 = .ok (.getfield 64, 3) := by decide +kernel
theorem dX7_loadBy_215 : decode cX7_loadBy 215 = .ok (.iload_n 2, 1) := by decide +kernel
theorem dX7_loadBy_216 : decode cX7_loadBy 216 = .ok (.iaload, 1) := by decide +kernel
theorem dX7_loadBy_217 : decode cX7_loadBy 217 = .ok (.dup2, 1) := by decide +kernel
theorem dX7_loadBy_218 : decode cX7_loadBy 218 = .ok (.iaload, 1) := by decide +kernel
theorem dX7_loadBy_219 : decode cX7_loadBy 219 = .ok (.iconst 1, 1) := by decide +kernel
theorem dX7_loadBy_220 : decode cX7_loadBy 220 = .ok (.iadd, 1) := by decide +kernel
theorem dX7_loadBy_221 : decode cX7_loadBy 221 = .ok (.iastore, 1) := by decide +kernel
theorem dX7_loadBy_222 : decode cX7_loadBy 222 = .ok (.aload_n 0, 1) := by decide +kernel
theorem dX7_loadBy_223 : decode cX7_loadBy 223 = .ok (.getfield 67, 3) := by decide +kernel
theorem dX7_loadBy_226 : decode cX7_loadBy 226 = .ok (.aload_n 0, 1) := by decide +kernel
theorem dX7_loadBy_227 : decode cX7_loadBy 227 = .ok (.getfield 64, 3) := by decide +kernel
theorem dX7_loadBy_230 : decode cX7_loadBy 230 = .ok (.iload_n 2, 1) := by decide +kernel
theorem dX7_loadBy_231 : decode cX7_loadBy 231 = .ok (.iaload, 1) := by decide +kernel
theorem dX7_loadBy_232 : decode cX7_loadBy 232 = .ok (.iaload, 1) := by decide +kernel
theorem dX7_loadBy_233 : decode cX7_loadBy 233 = .ok (.iload_n 1, 1) := by decide +kernel
theorem dX7_loadBy_234 : decode cX7_loadBy 234 = .ok (.if_icmp .le 17, 3) := by decide +kernel
theorem dX7_loadBy_237 : decode cX7_loadBy 237 = .ok (.aload_n 0, 1) := by decide +kernel
theorem dX7_loadBy_238 : decode cX7_loadBy 238 = .ok (.getfield 67, 3) := by decide +kernel
theorem dX7_loadBy_241 : decode cX7_loadBy 241 = .ok (.aload_n 0, 1) := by decide +kernel
theorem dX7_loadBy_242 : decode cX7_loadBy 242 = .ok (.getfield 64, 3) := by decide +kernel
theorem dX7_loadBy_245 : decode cX7_loadBy 245 = .ok (.iload_n 2, 1) := by decide +kernel
theorem dX7_loadBy_246 : decode cX7_loadBy 246 = .ok (.iaload, 1) := by decide +kernel
theorem dX7_loadBy_247 : decode cX7_loadBy 247 = .ok (.iaload, 1) := by decide +kernel
theorem dX7_loadBy_248 : decode cX7_loadBy 248 = .ok (.goto 4, 3) := by decide +kernel
theorem dX7_loadBy_251 : decode cX7_loadBy 251 = .ok (.iload_n 1, 1) := by decide +kernel
theorem dX7_loadBy_252 : decode cX7_loadBy 252 = .ok (.istore_n 1, 1) := by decide +kernel
theorem dX7_loadBy_253 : decode cX7_loadBy 253 = .ok (.iinc 2 1, 3) := by decide +kernel
theorem dX7_loadBy_256 : decode cX7_loadBy 256 = .ok (.goto (-217), 3) := by decide +kernel
theorem dX7_loadBy_259 : decode cX7_loadBy 259 = .ok (.aload_n 0, 1) := by decide +kernel
theorem dX7_loadBy_260 : decode cX7_loadBy 260 = .ok (.iconst 1, 1) := by decide +kernel
theorem dX7_loadBy_261 : decode cX7_loadBy 261 = .ok (.iconst 0, 1) := by decide +kernel
theorem dX7_loadBy_262 : decode cX7_loadBy 262 = .ok (.invokevirtual 124, 3) := by decide +kernel
theorem dX7_loadBy_265 : decode cX7_loadBy 265 = .ok (.aload_n 0, 1) := by decide +kernel
theorem dX7_loadBy_266 : decode cX7_loadBy 266 = .ok (.getfield 240, 3) := by decide +kernel
theorem dX7_loadBy_269 : decode cX7_loadBy 269 = .ok (.aload_n 0, 1) := by decide +kernel
theorem dX7_loadBy_270 : decode cX7_loadBy 270 = .ok (.getfield 231, 3) := by decide +kernel
theorem dX7_loadBy_273 : decode cX7_loadBy 273 = .ok (.if_icmp .ne 7, 3) := by decide +kernel
theorem dX7_loadBy_276 : decode cX7_loadBy 276 = .ok (.iload_n 1, 1) := by decide +kernel
theorem dX7_loadBy_277 : decode cX7_loadBy 277 = .ok (.goto 5, 3) := by decide +kernel
theorem dX7_loadBy_280 : decode cX7_loadBy 280 = .ok (.bipush (-9), 2) := by decide +kernel
theorem dX7_loadBy_282 : decode cX7_loadBy 282 = .ok (.ireturn, 1) := by decide +kernel
theorem dX7_nextChoice_0 : decode cX7_nextChoice 0 = .ok (.iload_n 1, 1) := by decide +kernel
theorem dX7_nextChoice_1 : decode cX7_nextChoice 1 = .ok (.istore_n 2, 1) := by decide +kernel
theorem dX7_nextChoice_2 : decode cX7_nextChoice 2 = .ok (.iload_n 2, 1) := by decide +kernel
theorem dX7_nextChoice_3 : decode cX7_nextChoice 3 = .ok (.iconst 1, 1) := by decide +kernel
theorem dX7_nextChoice_4 : decode cX7_nextChoice 4 = .ok (.iadd, 1) := by decide +kernel
theorem dX7_nextChoice_5 : decode cX7_nextChoice 5 = .ok (.istore_n 3, 1) := by decide +kernel
theorem dX7_nextChoice_6 : decode cX7_nextChoice 6 = .ok (.iload_n 3, 1) := by decide +kernel
theorem dX7_nextChoice_7 : decode cX7_nextChoice 7 = .ok (.aload_n 0, 1) := by decide +kernel
theorem dX7_nextChoice_8 : decode cX7_nextChoice 8 = .ok (.getfield 231, 3) := by decide +kernel
theorem dX7_nextChoice_11 : decode cX7_nextChoice 11 = .ok (.if_icmp .ge 16, 3) := by decide +kernel
theorem dX7_nextChoice_14 : decode cX7_nextChoice 14 = .ok (.aload_n 0, 1) := by decide +kernel
theorem dX7_nextChoice_15 : decode cX7_nextChoice 15 = .ok (.getfield 64, 3) := by decide +kernel
theorem dX7_nextChoice_18 : decode cX7_nextChoice 18 = .ok (.iload_n 3, 1) := by decide +kernel
theorem dX7_nextChoice_19 : decode cX7_nextChoice 19 = .ok (.iconst 0, 1) := by decide +kernel
theorem dX7_nextChoice_20 : decode cX7_nextChoice 20 = .ok (.iastore, 1) := by decide +kernel
theorem dX7_nextChoice_21 : decode cX7_nextChoice 21 = .ok (.iinc 3 1, 3) := by decide +kernel
theorem dX7_nextChoice_24 : decode cX7_nextChoice 24 = .ok (.goto (-18), 3) := by decide +kernel
theorem dX7_nextChoice_27 : decode cX7_nextChoice 27 = .ok (.iload_n 2, 1) := by decide +kernel
theorem dX7_nextChoice_28 : decode cX7_nextChoice 28 = .ok (.ifCond .lt 27, 3) := by decide +kernel
theorem dX7_nextChoice_31 : decode cX7_nextChoice 31 = .ok (.aload_n 0, 1) := by decide +kernel
theorem dX7_nextChoice_32 : decode cX7_nextChoice 32 = .ok (.getfield 64, 3) := by decide +kernel
theorem dX7_nextChoice_35 : decode cX7_nextChoice 35 = .ok (.iload_n 2, 1) := by decide +kernel
theorem dX7_nextChoice_36 : decode cX7_nextChoice 36 = .ok (.iaload, 1) := by decide +kernel
theorem dX7_nextChoice_37 : decode cX7_nextChoice 37 = .ok (.bipush 7, 2) := by decide +kernel
theorem dX7_nextChoice_39 : decode cX7_nextChoice 39 = .ok (.if_icmp .ne 16, 3) := by decide +kernel
theorem dX7_nextChoice_42 : decode cX7_nextChoice 42 = .ok (.aload_n 0, 1) := by decide +kernel
theorem dX7_nextChoice_43 : decode cX7_nextChoice 43 = .ok (.getfield 64, 3) := by decide +kernel
theorem dX7_nextChoice_46 : decode cX7_nextChoice 46 = .ok (.iload_n 2, 1) := by decide +kernel
theorem dX7_nextChoice_47 : decode cX7_nextChoice 47 = .ok (.iconst 0, 1) := by decide +kernel
theorem dX7_nextChoice_48 : decode cX7_nextChoice 48 = .ok (.iastore, 1) := by decide +kernel
theorem dX7_nextChoice_49 : decode cX7_nextChoice 49 = .ok (.iinc 2 (-1), 3) := by decide +kernel
theorem dX7_nextChoice_52 : decode cX7_nextChoice 52 = .ok (.goto (-25), 3) := by decide +kernel
theorem dX7_nextChoice_55 : decode cX7_nextChoice 55 = .ok (.iload_n 2, 1) := by decide +kernel
theorem dX7_nextChoice_56 : decode cX7_nextChoice 56 = .ok (.ifCond .ge 5, 3) := by decide +kernel
theorem dX7_nextChoice_59 : decode cX7_nextChoice 59 = .ok (.iconst 0, 1) := by decide +kernel
theorem dX7_nextChoice_60 : decode cX7_nextChoice 60 = .ok (.ireturn, 1) := by decide +kernel
theorem dX7_nextChoice_61 : decode cX7_nextChoice 61 = .ok (.aload_n 0, 1) := by decide +kernel
theorem dX7_nextChoice_62 : decode cX7_nextChoice 62 = .ok (.getfield 64, 3) := by decide +kernel
theorem dX7_nextChoice_65 : decode cX7_nextChoice 65 = .ok (.iload_n 2, 1) := by decide +kernel
theorem dX7_nextChoice_66 : decode cX7_nextChoice 66 = .ok (.dup2, 1) := by decide +kernel
theorem dX7_nextChoice_67 : decode cX7_nextChoice 67 = .ok (.iaload, 1) := by decide +kernel
theorem dX7_nextChoice_68 : decode cX7_nextChoice 68 = .ok (.iconst 1, 1) := by decide +kernel
theorem dX7_nextChoice_69 : decode cX7_nextChoice 69 = .ok (.iadd, 1) := by decide +kernel
theorem dX7_nextChoice_70 : decode cX7_nextChoice 70 = .ok (.iastore, 1) := by decide +kernel
theorem dX7_nextChoice_71 : decode cX7_nextChoice 71 = .ok (.iconst 1, 1) := by decide +kernel
theorem dX7_nextChoice_72 : decode cX7_nextChoice 72 = .ok (.ireturn, 1) := by decide +kernel
set_option maxRecDepth 20000 in
theorem ggX7_load_X7_no : GoodIn wsX7_load wsX7_no := goodIn_r _ [9, 10, 87, 88, 89, 90, 91, 92, 93, 94, 95, 96, 97, 98, 99, 100, 101, 102, 103, 104, 105, 106, 107, 108, 109, 110, 111, 112, 113, 114, 115, 116, 117, 118, 119] (by decide +kernel) (by decide +kernel)
set_option maxRecDepth 20000 in
theorem gX7_load_X7_no : GoodIn wsX7_load (wsV RX7 89 RX7 yX7_no wsX7_no) := goodIn_app (goodIn_of _ (by decide +kernel)) ggX7_load_X7_no
set_option maxRecDepth 20000 in
theorem ggX7_load_X7_loadBy : GoodIn wsX7_load wsX7_loadBy := goodIn_r _ [14, 15, 3, 4, 16, 2, 17, 18, 19, 8, 20, 21, 22, 23, 24, 25, 26, 27, 1, 28, 29, 30, 31, 32, 33, 34, 35, 36, 37, 38, 39, 40, 41, 42, 43, 44, 45, 46, 47, 48, 49, 50, 51, 52, 53, 54, 55, 56, 57, 58, 59, 60, 61, 62, 63, 64, 65, 66, 67, 68, 69, 70, 71, 72, 73, 74, 75, 76, 77, 78, 79, 80, 81, 82, 87, 88, 89, 90, 91, 92, 93, 94, 95, 96, 97, 98, 99, 100, 101, 102, 103, 104, 105, 106, 107, 108, 109, 110, 111, 112, 113, 114, 115, 116, 117, 118, 119] (by decide +kernel) (by decide +kernel)
set_option maxRecDepth 20000 in
theorem gX7_load_X7_loadBy : GoodIn wsX7_load (wsV RX7 243 RX7 yX7_loadBy wsX7_loadBy) := goodIn_app (goodIn_of _ (by decide +kernel)) ggX7_load_X7_loadBy
set_option maxRecDepth 20000 in
theorem ggX7_load_X7_nextChoice : GoodIn wsX7_load wsX7_nextChoice := goodIn_r _ [86, 3, 2, 87, 88, 89, 90, 91, 92, 93, 94, 95, 96, 97, 98, 99, 100, 101, 102, 103, 104, 105, 106, 107, 108, 109, 110, 111, 112, 113, 114, 115, 116, 117, 118, 119] (by decide +kernel) (by decide +kernel)
set_option maxRecDepth 20000 in
theorem gX7_load_X7_nextChoice : GoodIn wsX7_load (wsV RX7 246 RX7 yX7_nextChoice wsX7_nextChoice) := goodIn_app (goodIn_of _ (by decide +kernel)) ggX7_load_X7_nextChoice
theorem dX7_load_0 : decode cX7_load 0 = .ok (.aload_n 0, 1) := by decide +kernel
theorem dX7_load_1 : decode cX7_load 1 = .ok (.getfield 109, 3) := by decide +kernel
theorem dX7_load_4 : decode cX7_load 4 = .ok (.iconst 1, 1) := by decide +kernel
theorem dX7_load_5 : decode cX7_load 5 = .ok (.if_icmp .ne 10, 3) := by decide +kernel
theorem dX7_load_8 : decode cX7_load 8 = .ok (.aload_n 0, 1) := by decide +kernel
theorem dX7_load_9 : decode cX7_load 9 = .ok (.bipush (-3), 2) := by decide +kernel
theorem dX7_load_11 : decode cX7_load 11 = .ok (.invokevirtual 89, 3) := by decide +kernel
theorem dX7_load_14 : decode cX7_load 14 = .ok (.ireturn, 1) := by decide +kernel
theorem dX7_load_15 : decode cX7_load 15 = .ok (.iconst 0, 1) := by decide +kernel
theorem dX7_load_16 : decode cX7_load 16 = .ok (.istore_n 1, 1) := by decide +kernel
theorem dX7_load_17 : decode cX7_load 17 = .ok (.iload_n 1, 1) := by decide +kernel
theorem dX7_load_18 : decode cX7_load 18 = .ok (.bipush 6, 2) := by decide +kernel
theorem dX7_load_20 : decode cX7_load 20 = .ok (.if_icmp .ge 16, 3) := by decide +kernel
theorem dX7_load_23 : decode cX7_load 23 = .ok (.aload_n 0, 1) := by decide +kernel
theorem dX7_load_24 : decode cX7_load 24 = .ok (.getfield 64, 3) := by decide +kernel
theorem dX7_load_27 : decode cX7_load 27 = .ok (.iload_n 1, 1) := by decide +kernel
theorem dX7_load_28 : decode cX7_load 28 = .ok (.iconst 0, 1) := by decide +kernel
theorem dX7_load_29 : decode cX7_load 29 = .ok (.iastore, 1) := by decide +kernel
theorem dX7_load_30 : decode cX7_load 30 = .ok (.iinc 1 1, 3) := by decide +kernel
theorem dX7_load_33 : decode cX7_load 33 = .ok (.goto (-16), 3) := by decide +kernel
theorem dX7_load_36 : decode cX7_load 36 = .ok (.aload_n 0, 1) := by decide +kernel
theorem dX7_load_37 : decode cX7_load 37 = .ok (.getfield 231, 3) := by decide +kernel
theorem dX7_load_40 : decode cX7_load 40 = .ok (.ifCond .ne 5, 3) := by decide +kernel
theorem dX7_load_43 : decode cX7_load 43 = .ok (.iconst 0, 1) := by decide +kernel
theorem dX7_load_44 : decode cX7_load 44 = .ok (.ireturn, 1) := by decide +kernel
theorem dX7_load_45 : decode cX7_load 45 = .ok (.bipush (-9), 2) := by decide +kernel
theorem dX7_load_47 : decode cX7_load 47 = .ok (.istore_n 1, 1) := by decide +kernel
theorem dX7_load_48 : decode cX7_load 48 = .ok (.iconst 1, 1) := by decide +kernel
theorem dX7_load_49 : decode cX7_load 49 = .ok (.istore_n 2, 1) := by decide +kernel
theorem dX7_load_50 : decode cX7_load 50 = .ok (.iload_n 2, 1) := by decide +kernel
theorem dX7_load_51 : decode cX7_load 51 = .ok (.ifCond .eq 55, 3) := by decide +kernel
theorem dX7_load_54 : decode cX7_load 54 = .ok (.aload_n 0, 1) := by decide +kernel
theorem dX7_load_55 : decode cX7_load 55 = .ok (.invokevirtual 243, 3) := by decide +kernel
theorem dX7_load_58 : decode cX7_load 58 = .ok (.istore_n 3, 1) := by decide +kernel
theorem dX7_load_59 : decode cX7_load 59 = .ok (.iload_n 3, 1) := by decide +kernel
theorem dX7_load_60 : decode cX7_load 60 = .ok (.ifCond .lt 14, 3) := by decide +kernel
theorem dX7_load_63 : decode cX7_load 63 = .ok (.iload_n 1, 1) := by decide +kernel
theorem dX7_load_64 : decode cX7_load 64 = .ok (.ifCond .lt 8, 3) := by decide +kernel
theorem dX7_load_67 : decode cX7_load 67 = .ok (.iload_n 3, 1) := by decide +kernel
theorem dX7_load_68 : decode cX7_load 68 = .ok (.iload_n 1, 1) := by decide +kernel
theorem dX7_load_69 : decode cX7_load 69 = .ok (.if_icmp .ge 5, 3) := by decide +kernel
theorem dX7_load_72 : decode cX7_load 72 = .ok (.iload_n 3, 1) := by decide +kernel
theorem dX7_load_73 : decode cX7_load 73 = .ok (.istore_n 1, 1) := by decide +kernel
theorem dX7_load_74 : decode cX7_load 74 = .ok (.aload_n 0, 1) := by decide +kernel
theorem dX7_load_75 : decode cX7_load 75 = .ok (.aload_n 0, 1) := by decide +kernel
theorem dX7_load_76 : decode cX7_load 76 = .ok (.getfield 240, 3) := by decide +kernel
theorem dX7_load_79 : decode cX7_load 79 = .ok (.aload_n 0, 1) := by decide +kernel
theorem dX7_load_80 : decode cX7_load 80 = .ok (.getfield 231, 3) := by decide +kernel
theorem dX7_load_83 : decode cX7_load 83 = .ok (.if_icmp .ne 12, 3) := by decide +kernel
theorem dX7_load_86 : decode cX7_load 86 = .ok (.aload_n 0, 1) := by decide +kernel
theorem dX7_load_87 : decode cX7_load 87 = .ok (.getfield 231, 3) := by decide +kernel
theorem dX7_load_90 : decode cX7_load 90 = .ok (.iconst 1, 1) := by decide +kernel
theorem dX7_load_91 : decode cX7_load 91 = .ok (.isub, 1) := by decide +kernel
theorem dX7_load_92 : decode cX7_load 92 = .ok (.goto 7, 3) := by decide +kernel
theorem dX7_load_95 : decode cX7_load 95 = .ok (.aload_n 0, 1) := by decide +kernel
theorem dX7_load_96 : decode cX7_load 96 = .ok (.getfield 240, 3) := by decide +kernel
theorem dX7_load_99 : decode cX7_load 99 = .ok (.invokevirtual 246, 3) := by decide +kernel
theorem dX7_load_102 : decode cX7_load 102 = .ok (.istore_n 2, 1) := by decide +kernel
theorem dX7_load_103 : decode cX7_load 103 = .ok (.goto (-53), 3) := by decide +kernel
theorem dX7_load_106 : decode cX7_load 106 = .ok (.iload_n 1, 1) := by decide +kernel
theorem dX7_load_107 : decode cX7_load 107 = .ok (.ireturn, 1) := by decide +kernel
set_option maxRecDepth 20000 in
theorem ggX7_nextOrder_X7_changes : GoodIn wsX7_nextOrder wsX7_changes := goodIn_r _ [7, 2, 8, 9, 10, 11, 12, 13, 14, 15, 16, 17, 18, 19, 20, 21, 22, 23, 24, 25, 26, 27, 28, 29, 30, 31, 32, 33, 34, 35, 36, 37, 38, 39, 40] (by decide +kernel) (by decide +kernel)
set_option maxRecDepth 20000 in
theorem gX7_nextOrder_X7_changes : GoodIn wsX7_nextOrder (wsV RX7 249 RX7 yX7_changes wsX7_changes) := goodIn_app (goodIn_of _ (by decide +kernel)) ggX7_nextOrder_X7_changes
theorem dX7_nextOrder_0 : decode cX7_nextOrder 0 = .ok (.aload_n 0, 1) := by decide +kernel
theorem dX7_nextOrder_1 : decode cX7_nextOrder 1 = .ok (.getfield 231, 3) := by decide +kernel
theorem dX7_nextOrder_4 : decode cX7_nextOrder 4 = .ok (.iconst 2, 1) := by decide +kernel
theorem dX7_nextOrder_5 : decode cX7_nextOrder 5 = .ok (.isub, 1) := by decide +kernel
theorem dX7_nextOrder_6 : decode cX7_nextOrder 6 = .ok (.istore_n 1, 1) := by decide +kernel
theorem dX7_nextOrder_7 : decode cX7_nextOrder 7 = .ok (.iload_n 1, 1) := by decide +kernel
theorem dX7_nextOrder_8 : decode cX7_nextOrder 8 = .ok (.ifCond .lt 26, 3) := by decide +kernel
theorem dX7_nextOrder_11 : decode cX7_nextOrder 11 = .ok (.aload_n 0, 1) := by decide +kernel
theorem dX7_nextOrder_12 : decode cX7_nextOrder 12 = .ok (.getfield 61, 3) := by decide +kernel
theorem dX7_nextOrder_15 : decode cX7_nextOrder 15 = .ok (.iload_n 1, 1) := by decide +kernel
theorem dX7_nextOrder_16 : decode cX7_nextOrder 16 = .ok (.iaload, 1) := by decide +kernel
theorem dX7_nextOrder_17 : decode cX7_nextOrder 17 = .ok (.aload_n 0, 1) := by decide +kernel
theorem dX7_nextOrder_18 : decode cX7_nextOrder 18 = .ok (.getfield 61, 3) := by decide +kernel
theorem dX7_nextOrder_21 : decode cX7_nextOrder 21 = .ok (.iload_n 1, 1) := by decide +kernel
theorem dX7_nextOrder_22 : decode cX7_nextOrder 22 = .ok (.iconst 1, 1) := by decide +kernel
theorem dX7_nextOrder_23 : decode cX7_nextOrder 23 = .ok (.iadd, 1) := by decide +kernel
theorem dX7_nextOrder_24 : decode cX7_nextOrder 24 = .ok (.iaload, 1) := by decide +kernel
theorem dX7_nextOrder_25 : decode cX7_nextOrder 25 = .ok (.if_icmp .le 9, 3) := by decide +kernel
theorem dX7_nextOrder_28 : decode cX7_nextOrder 28 = .ok (.iinc 1 (-1), 3) := by decide +kernel
theorem dX7_nextOrder_31 : decode cX7_nextOrder 31 = .ok (.goto (-24), 3) := by decide +kernel
theorem dX7_nextOrder_34 : decode cX7_nextOrder 34 = .ok (.iload_n 1, 1) := by decide +kernel
theorem dX7_nextOrder_35 : decode cX7_nextOrder 35 = .ok (.ifCond .ge 5, 3) := by decide +kernel
theorem dX7_nextOrder_38 : decode cX7_nextOrder 38 = .ok (.iconst 0, 1) := by decide +kernel
theorem dX7_nextOrder_39 : decode cX7_nextOrder 39 = .ok (.ireturn, 1) := by decide +kernel
theorem dX7_nextOrder_40 : decode cX7_nextOrder 40 = .ok (.aload_n 0, 1) := by decide +kernel
theorem dX7_nextOrder_41 : decode cX7_nextOrder 41 = .ok (.getfield 231, 3) := by decide +kernel
theorem dX7_nextOrder_44 : decode cX7_nextOrder 44 = .ok (.iconst 1, 1) := by decide +kernel
theorem dX7_nextOrder_45 : decode cX7_nextOrder 45 = .ok (.isub, 1) := by decide +kernel
theorem dX7_nextOrder_46 : decode cX7_nextOrder 46 = .ok (.istore_n 2, 1) := by decide +kernel
theorem dX7_nextOrder_47 : decode cX7_nextOrder 47 = .ok (.aload_n 0, 1) := by decide +kernel
theorem dX7_nextOrder_48 : decode cX7_nextOrder 48 = .ok (.getfield 61, 3) := by decide +kernel
theorem dX7_nextOrder_51 : decode cX7_nextOrder 51 = .ok (.iload_n 2, 1) := by decide +kernel
theorem dX7_nextOrder_52 : decode cX7_nextOrder 52 = .ok (.iaload, 1) := by decide +kernel
theorem dX7_nextOrder_53 : decode cX7_nextOrder 53 = .ok (.aload_n 0, 1) := by decide +kernel
theorem dX7_nextOrder_54 : decode cX7_nextOrder 54 = .ok (.getfield 61, 3) := by decide +kernel
theorem dX7_nextOrder_57 : decode cX7_nextOrder 57 = .ok (.iload_n 1, 1) := by decide +kernel
theorem dX7_nextOrder_58 : decode cX7_nextOrder 58 = .ok (.iaload, 1) := by decide +kernel
theorem dX7_nextOrder_59 : decode cX7_nextOrder 59 = .ok (.if_icmp .ge 9, 3) := by decide +kernel
theorem dX7_nextOrder_62 : decode cX7_nextOrder 62 = .ok (.iinc 2 (-1), 3) := by decide +kernel
theorem dX7_nextOrder_65 : decode cX7_nextOrder 65 = .ok (.goto (-18), 3) := by decide +kernel
theorem dX7_nextOrder_68 : decode cX7_nextOrder 68 = .ok (.aload_n 0, 1) := by decide +kernel
theorem dX7_nextOrder_69 : decode cX7_nextOrder 69 = .ok (.iload_n 1, 1) := by decide +kernel
theorem dX7_nextOrder_70 : decode cX7_nextOrder 70 = .ok (.iload_n 2, 1) := by decide +kernel
theorem dX7_nextOrder_71 : decode cX7_nextOrder 71 = .ok (.invokevirtual 249, 3) := by decide +kernel
theorem dX7_nextOrder_74 : decode cX7_nextOrder 74 = .ok (.iload_n 1, 1) := by decide +kernel
theorem dX7_nextOrder_75 : decode cX7_nextOrder 75 = .ok (.iconst 1, 1) := by decide +kernel
theorem dX7_nextOrder_76 : decode cX7_nextOrder 76 = .ok (.iadd, 1) := by decide +kernel
theorem dX7_nextOrder_77 : decode cX7_nextOrder 77 = .ok (.istore_n 3, 1) := by decide +kernel
theorem dX7_nextOrder_78 : decode cX7_nextOrder 78 = .ok (.aload_n 0, 1) := by decide +kernel
theorem dX7_nextOrder_79 : decode cX7_nextOrder 79 = .ok (.getfield 231, 3) := by decide +kernel
theorem dX7_nextOrder_82 : decode cX7_nextOrder 82 = .ok (.iconst 1, 1) := by decide +kernel
theorem dX7_nextOrder_83 : decode cX7_nextOrder 83 = .ok (.isub, 1) := by decide +kernel
theorem dX7_nextOrder_84 : decode cX7_nextOrder 84 = .ok (.istore 4, 2) := by decide +kernel
theorem dX7_nextOrder_86 : decode cX7_nextOrder 86 = .ok (.iload_n 3, 1) := by decide +kernel
theorem dX7_nextOrder_87 : decode cX7_nextOrder 87 = .ok (.iload 4, 2) := by decide +kernel
theorem dX7_nextOrder_89 : decode cX7_nextOrder 89 = .ok (.if_icmp .ge 19, 3) := by decide +kernel
theorem dX7_nextOrder_92 : decode cX7_nextOrder 92 = .ok (.aload_n 0, 1) := by decide +kernel
theorem dX7_nextOrder_93 : decode cX7_nextOrder 93 = .ok (.iload_n 3, 1) := by decide +kernel
theorem dX7_nextOrder_94 : decode cX7_nextOrder 94 = .ok (.iload 4, 2) := by decide +kernel
theorem dX7_nextOrder_96 : decode cX7_nextOrder 96 = .ok (.invokevirtual 249, 3) := by decide +kernel
theorem dX7_nextOrder_99 : decode cX7_nextOrder 99 = .ok (.iinc 3 1, 3) := by decide +kernel
theorem dX7_nextOrder_102 : decode cX7_nextOrder 102 = .ok (.iinc 4 (-1), 3) := by decide +kernel
theorem dX7_nextOrder_105 : decode cX7_nextOrder 105 = .ok (.goto (-19), 3) := by decide +kernel
theorem dX7_nextOrder_108 : decode cX7_nextOrder 108 = .ok (.iconst 1, 1) := by decide +kernel
theorem dX7_nextOrder_109 : decode cX7_nextOrder 109 = .ok (.ireturn, 1) := by decide +kernel
theorem dX7_changes_0 : decode cX7_changes 0 = .ok (.aload_n 0, 1) := by decide +kernel
theorem dX7_changes_1 : decode cX7_changes 1 = .ok (.getfield 61, 3) := by decide +kernel
theorem dX7_changes_4 : decode cX7_changes 4 = .ok (.iload_n 1, 1) := by decide +kernel
theorem dX7_changes_5 : decode cX7_changes 5 = .ok (.iaload, 1) := by decide +kernel
theorem dX7_changes_6 : decode cX7_changes 6 = .ok (.istore_n 3, 1) := by decide +kernel
theorem dX7_changes_7 : decode cX7_changes 7 = .ok (.aload_n 0, 1) := by decide +kernel
theorem dX7_changes_8 : decode cX7_changes 8 = .ok (.getfield 61, 3) := by decide +kernel
theorem dX7_changes_11 : decode cX7_changes 11 = .ok (.iload_n 1, 1) := by decide +kernel
theorem dX7_changes_12 : decode cX7_changes 12 = .ok (.aload_n 0, 1) := by decide +kernel
theorem dX7_changes_13 : decode cX7_changes 13 = .ok (.getfield 61, 3) := by decide +kernel
theorem dX7_changes_16 : decode cX7_changes 16 = .ok (.iload_n 2, 1) := by decide +kernel
theorem dX7_changes_17 : decode cX7_changes 17 = .ok (.iaload, 1) := by decide +kernel
theorem dX7_changes_18 : decode cX7_changes 18 = .ok (.iastore, 1) := by decide +kernel
theorem dX7_changes_19 : decode cX7_changes 19 = .ok (.aload_n 0, 1) := by decide +kernel
theorem dX7_changes_20 : decode cX7_changes 20 = .ok (.getfield 61, 3) := by decide +kernel
theorem dX7_changes_23 : decode cX7_changes 23 = .ok (.iload_n 2, 1) := by decide +kernel
theorem dX7_changes_24 : decode cX7_changes 24 = .ok (.iload_n 3, 1) := by decide +kernel
theorem dX7_changes_25 : decode cX7_changes 25 = .ok (.iastore, 1) := by decide +kernel
theorem dX7_changes_26 : decode cX7_changes 26 = .ok (.return_, 1) := by decide +kernel
set_option maxRecDepth 20000 in
theorem ggX7_cards_X7_no : GoodIn wsX7_cards wsX7_no := goodIn_r _ [7, 8, 89, 90, 91, 92, 93, 94, 95, 96, 97, 98, 99, 100, 101, 102, 103, 104, 105, 106, 107, 108, 109, 110, 111, 112, 113, 114, 115, 116, 117, 118, 119, 120, 121] (by decide +kernel) (by decide +kernel)
set_option maxRecDepth 20000 in
theorem gX7_cards_X7_no : GoodIn wsX7_cards (wsV RX7 89 RX7 yX7_no wsX7_no) := goodIn_app (goodIn_of _ (by decide +kernel)) ggX7_cards_X7_no
set_option maxRecDepth 20000 in
theorem ggX7_cards_X7_judged : GoodIn wsX7_cards wsX7_judged := goodIn_r _ [12, 1, 13, 2, 14, 15, 16, 6, 17, 18, 19, 20, 21, 22, 23, 24, 25, 26, 27, 28, 29, 30, 31, 32, 33, 34, 35, 36, 37, 38, 39, 40, 41, 42, 43, 44, 45, 46, 47, 48, 49, 50, 51, 52, 53, 54, 55, 56, 57, 58, 59, 60, 61, 62, 63, 64, 65, 66, 67, 68, 69, 70, 71, 72, 73, 74, 75, 76, 77, 78, 79, 80, 89, 90, 91, 92, 93, 94, 95, 96, 97, 98, 99, 100, 101, 102, 103, 104, 105, 106, 107, 108, 109, 110, 111, 112, 113, 114, 115, 116, 117, 118, 119, 120, 121] (by decide +kernel) (by decide +kernel)
set_option maxRecDepth 20000 in
theorem gX7_cards_X7_judged : GoodIn wsX7_cards (wsV RX7 237 RX7 yX7_judged wsX7_judged) := goodIn_app (goodIn_of _ (by decide +kernel)) ggX7_cards_X7_judged
set_option maxRecDepth 20000 in
theorem ggX7_cards_X7_nextOrder : GoodIn wsX7_cards wsX7_nextOrder := goodIn_r _ [84, 1, 2, 85, 86, 87, 6, 88, 89, 90, 91, 92, 93, 94, 95, 96, 97, 98, 99, 100, 101, 102, 103, 104, 105, 106, 107, 108, 109, 110, 111, 112, 113, 114, 115, 116, 117, 118, 119, 120, 121] (by decide +kernel) (by decide +kernel)
set_option maxRecDepth 20000 in
theorem gX7_cards_X7_nextOrder : GoodIn wsX7_cards (wsV RX7 252 RX7 yX7_nextOrder wsX7_nextOrder) := goodIn_app (goodIn_of _ (by decide +kernel)) ggX7_cards_X7_nextOrder
theorem dX7_cards_0 : decode cX7_cards 0 = .ok (.aload_n 0, 1) := by decide +kernel
theorem dX7_cards_1 : decode cX7_cards 1 = .ok (.getfield 231, 3) := by decide +kernel
theorem dX7_cards_4 : decode cX7_cards 4 = .ok (.iconst 5, 1) := by decide +kernel
theorem dX7_cards_5 : decode cX7_cards 5 = .ok (.if_icmp .le 10, 3) := by decide +kernel
theorem dX7_cards_8 : decode cX7_cards 8 = .ok (.aload_n 0, 1) := by decide +kernel
theorem dX7_cards_9 : decode cX7_cards 9 = .ok (.bipush (-6), 2) := by decide +kernel
theorem dX7_cards_11 : decode cX7_cards 11 = .ok (.invokevirtual 89, 3) := by decide +kernel
theorem dX7_cards_14 : decode cX7_cards 14 = .ok (.ireturn, 1) := by decide +kernel
theorem dX7_cards_15 : decode cX7_cards 15 = .ok (.iconst 0, 1) := by decide +kernel
theorem dX7_cards_16 : decode cX7_cards 16 = .ok (.istore_n 1, 1) := by decide +kernel
theorem dX7_cards_17 : decode cX7_cards 17 = .ok (.iload_n 1, 1) := by decide +kernel
theorem dX7_cards_18 : decode cX7_cards 18 = .ok (.aload_n 0, 1) := by decide +kernel
theorem dX7_cards_19 : decode cX7_cards 19 = .ok (.getfield 231, 3) := by decide +kernel
theorem dX7_cards_22 : decode cX7_cards 22 = .ok (.if_icmp .ge 16, 3) := by decide +kernel
theorem dX7_cards_25 : decode cX7_cards 25 = .ok (.aload_n 0, 1) := by decide +kernel
theorem dX7_cards_26 : decode cX7_cards 26 = .ok (.getfield 61, 3) := by decide +kernel
theorem dX7_cards_29 : decode cX7_cards 29 = .ok (.iload_n 1, 1) := by decide +kernel
theorem dX7_cards_30 : decode cX7_cards 30 = .ok (.iload_n 1, 1) := by decide +kernel
theorem dX7_cards_31 : decode cX7_cards 31 = .ok (.iastore, 1) := by decide +kernel
theorem dX7_cards_32 : decode cX7_cards 32 = .ok (.iinc 1 1, 3) := by decide +kernel
theorem dX7_cards_35 : decode cX7_cards 35 = .ok (.goto (-18), 3) := by decide +kernel
theorem dX7_cards_38 : decode cX7_cards 38 = .ok (.iconst 0, 1) := by decide +kernel
theorem dX7_cards_39 : decode cX7_cards 39 = .ok (.istore_n 1, 1) := by decide +kernel
theorem dX7_cards_40 : decode cX7_cards 40 = .ok (.iconst 1, 1) := by decide +kernel
theorem dX7_cards_41 : decode cX7_cards 41 = .ok (.istore_n 2, 1) := by decide +kernel
theorem dX7_cards_42 : decode cX7_cards 42 = .ok (.iload_n 2, 1) := by decide +kernel
theorem dX7_cards_43 : decode cX7_cards 43 = .ok (.ifCond .eq 26, 3) := by decide +kernel
theorem dX7_cards_46 : decode cX7_cards 46 = .ok (.iload_n 1, 1) := by decide +kernel
theorem dX7_cards_47 : decode cX7_cards 47 = .ok (.aload_n 0, 1) := by decide +kernel
theorem dX7_cards_48 : decode cX7_cards 48 = .ok (.invokevirtual 237, 3) := by decide +kernel
theorem dX7_cards_51 : decode cX7_cards 51 = .ok (.ifCond .ge 7, 3) := by decide +kernel
theorem dX7_cards_54 : decode cX7_cards 54 = .ok (.iconst 1, 1) := by decide +kernel
theorem dX7_cards_55 : decode cX7_cards 55 = .ok (.goto 4, 3) := by decide +kernel
theorem dX7_cards_58 : decode cX7_cards 58 = .ok (.iconst 0, 1) := by decide +kernel
theorem dX7_cards_59 : decode cX7_cards 59 = .ok (.iadd, 1) := by decide +kernel
theorem dX7_cards_60 : decode cX7_cards 60 = .ok (.istore_n 1, 1) := by decide +kernel
theorem dX7_cards_61 : decode cX7_cards 61 = .ok (.aload_n 0, 1) := by decide +kernel
theorem dX7_cards_62 : decode cX7_cards 62 = .ok (.invokevirtual 252, 3) := by decide +kernel
theorem dX7_cards_65 : decode cX7_cards 65 = .ok (.istore_n 2, 1) := by decide +kernel
theorem dX7_cards_66 : decode cX7_cards 66 = .ok (.goto (-24), 3) := by decide +kernel
theorem dX7_cards_69 : decode cX7_cards 69 = .ok (.iload_n 1, 1) := by decide +kernel
theorem dX7_cards_70 : decode cX7_cards 70 = .ok (.ireturn, 1) := by decide +kernel
set_option maxRecDepth 20000 in
theorem ggX7_seeds_X7_bound : GoodIn wsX7_seeds wsX7_bound := goodIn_r _ [8] (by decide +kernel) (by decide +kernel)
set_option maxRecDepth 20000 in
theorem gX7_seeds_X7_bound : GoodIn wsX7_seeds (va_wsS RX7 82 yX7_bound wsX7_bound) := goodIn_app (goodIn_of _ (by decide +kernel)) ggX7_seeds_X7_bound
set_option maxRecDepth 20000 in
theorem ggX7_seeds_X7_no : GoodIn wsX7_seeds wsX7_no := goodIn_r _ [12, 13, 76, 77, 78, 79, 80, 81, 82, 83, 84, 85, 86, 87, 88, 89, 90, 91, 92, 93, 94, 95, 96, 97, 98, 99, 100, 101, 102, 103, 104, 105, 106, 107, 108] (by decide +kernel) (by decide +kernel)
set_option maxRecDepth 20000 in
theorem gX7_seeds_X7_no : GoodIn wsX7_seeds (wsV RX7 89 RX7 yX7_no wsX7_no) := goodIn_app (goodIn_of _ (by decide +kernel)) ggX7_seeds_X7_no
set_option maxRecDepth 20000 in
theorem ggX7_seeds_X7_passesAll : GoodIn wsX7_seeds wsX7_passesAll := goodIn_r _ [17, 18, 19, 20, 21, 22, 23, 1, 24, 25, 26, 27, 7, 28, 29, 30, 31, 32, 33, 76, 77, 78, 79, 80, 81, 82, 83, 84, 85, 86, 87, 88, 89, 90, 91, 92, 93, 94, 95, 96, 97, 98, 99, 100, 101, 102, 103, 104, 105, 106, 107, 108] (by decide +kernel) (by decide +kernel)
set_option maxRecDepth 20000 in
theorem gX7_seeds_X7_passesAll : GoodIn wsX7_seeds (wsV RX7 124 RX7 yX7_passesAll wsX7_passesAll) := goodIn_app (goodIn_of _ (by decide +kernel)) ggX7_seeds_X7_passesAll
set_option maxRecDepth 20000 in
theorem ggX7_seeds_X7_mayDance : GoodIn wsX7_seeds wsX7_mayDance := goodIn_r _ [37, 24, 38, 39, 40, 7, 41, 23, 42, 43, 44, 45, 20, 21, 46, 47, 48, 49, 1, 50, 51, 52, 53, 22, 54, 55, 56, 76, 77, 78, 79, 80, 81, 82, 83, 84, 85, 86, 87, 88, 89, 90, 91, 92, 93, 94, 95, 96, 97, 98, 99, 100, 101, 102, 103, 104, 105, 106, 107, 108] (by decide +kernel) (by decide +kernel)
set_option maxRecDepth 20000 in
theorem gX7_seeds_X7_mayDance : GoodIn wsX7_seeds (wsV RX7 171 RX7 yX7_mayDance wsX7_mayDance) := goodIn_app (goodIn_of _ (by decide +kernel)) ggX7_seeds_X7_mayDance
set_option maxRecDepth 20000 in
theorem ggX7_seeds_X7_dancesByLeast : GoodIn wsX7_seeds wsX7_dancesByLeast := goodIn_r _ [60, 46, 47, 48, 7, 49, 1, 24, 50, 51, 52, 53, 22, 21, 20, 23, 38, 39, 40, 41, 54, 55, 56, 61, 62, 63, 64, 65, 66, 67, 68, 69, 70, 71, 76, 77, 78, 79, 80, 81, 82, 83, 84, 85, 86, 87, 88, 89, 90, 91, 92, 93, 94, 95, 96, 97, 98, 99, 100, 101, 102, 103, 104, 105, 106, 107, 108] (by decide +kernel) (by decide +kernel)
set_option maxRecDepth 20000 in
theorem gX7_seeds_X7_dancesByLeast : GoodIn wsX7_seeds (wsV RX7 234 RX7 yX7_dancesByLeast wsX7_dancesByLeast) := goodIn_app (goodIn_of _ (by decide +kernel)) ggX7_seeds_X7_dancesByLeast
set_option maxRecDepth 20000 in
theorem ggX7_seeds_X7_pairsDanced : GoodIn wsX7_seeds wsX7_pairsDanced := goodIn_r _ [75, 1, 23, 54, 55, 7, 56, 76, 77, 78, 79, 80, 81, 82, 83, 84, 85, 86, 87, 88, 89, 90, 91, 92, 93, 94, 95, 96, 97, 98, 99, 100, 101, 102, 103, 104, 105, 106, 107, 108] (by decide +kernel) (by decide +kernel)
set_option maxRecDepth 20000 in
theorem gX7_seeds_X7_pairsDanced : GoodIn wsX7_seeds (wsV RX7 148 RX7 yX7_pairsDanced wsX7_pairsDanced) := goodIn_app (goodIn_of _ (by decide +kernel)) ggX7_seeds_X7_pairsDanced
theorem dX7_seeds_0 : decode cX7_seeds 0 = .ok (.iload_n 1, 1) := by decide +kernel
theorem dX7_seeds_1 : decode cX7_seeds 1 = .ok (.iconst 1, 1) := by decide +kernel
theorem dX7_seeds_2 : decode cX7_seeds 2 = .ok (.bipush 40, 2) := by decide +kernel
theorem dX7_seeds_4 : decode cX7_seeds 4 = .ok (.invokestatic 82, 3) := by decide +kernel
theorem dX7_seeds_7 : decode cX7_seeds 7 = .ok (.istore_n 3, 1) := by decide +kernel
theorem dX7_seeds_8 : decode cX7_seeds 8 = .ok (.iload_n 3, 1) := by decide +kernel
theorem dX7_seeds_9 : decode cX7_seeds 9 = .ok (.ifCond .ne 13, 3) := by decide +kernel
theorem dX7_seeds_12 : decode cX7_seeds 12 = .ok (.aload_n 0, 1) := by decide +kernel
theorem dX7_seeds_13 : decode cX7_seeds 13 = .ok (.getfield 70, 3) := by decide +kernel
theorem dX7_seeds_16 : decode cX7_seeds 16 = .ok (.ifCond .ne 6, 3) := by decide +kernel
theorem dX7_seeds_19 : decode cX7_seeds 19 = .ok (.bipush (-3), 2) := by decide +kernel
theorem dX7_seeds_21 : decode cX7_seeds 21 = .ok (.istore_n 3, 1) := by decide +kernel
theorem dX7_seeds_22 : decode cX7_seeds 22 = .ok (.iload_n 3, 1) := by decide +kernel
theorem dX7_seeds_23 : decode cX7_seeds 23 = .ok (.ifCond .eq 9, 3) := by decide +kernel
theorem dX7_seeds_26 : decode cX7_seeds 26 = .ok (.aload_n 0, 1) := by decide +kernel
theorem dX7_seeds_27 : decode cX7_seeds 27 = .ok (.iload_n 3, 1) := by decide +kernel
theorem dX7_seeds_28 : decode cX7_seeds 28 = .ok (.invokevirtual 89, 3) := by decide +kernel
theorem dX7_seeds_31 : decode cX7_seeds 31 = .ok (.ireturn, 1) := by decide +kernel
theorem dX7_seeds_32 : decode cX7_seeds 32 = .ok (.aload_n 0, 1) := by decide +kernel
theorem dX7_seeds_33 : decode cX7_seeds 33 = .ok (.iconst 1, 1) := by decide +kernel
theorem dX7_seeds_34 : decode cX7_seeds 34 = .ok (.iconst 1, 1) := by decide +kernel
theorem dX7_seeds_35 : decode cX7_seeds 35 = .ok (.invokevirtual 124, 3) := by decide +kernel
theorem dX7_seeds_38 : decode cX7_seeds 38 = .ok (.iload_n 2, 1) := by decide +kernel
theorem dX7_seeds_39 : decode cX7_seeds 39 = .ok (.istore 4, 2) := by decide +kernel
theorem dX7_seeds_41 : decode cX7_seeds 41 = .ok (.iconst 0, 1) := by decide +kernel
theorem dX7_seeds_42 : decode cX7_seeds 42 = .ok (.istore 5, 2) := by decide +kernel
theorem dX7_seeds_44 : decode cX7_seeds 44 = .ok (.iload 5, 2) := by decide +kernel
theorem dX7_seeds_46 : decode cX7_seeds 46 = .ok (.iload_n 1, 1) := by decide +kernel
theorem dX7_seeds_47 : decode cX7_seeds 47 = .ok (.if_icmp .ge 91, 3) := by decide +kernel
theorem dX7_seeds_50 : decode cX7_seeds 50 = .ok (.iload 4, 2) := by decide +kernel
theorem dX7_seeds_52 : decode cX7_seeds 52 = .ok (.ldc 255, 2) := by decide +kernel
theorem dX7_seeds_54 : decode cX7_seeds 54 = .ok (.imul, 1) := by decide +kernel
theorem dX7_seeds_55 : decode cX7_seeds 55 = .ok (.sipush 12345, 3) := by decide +kernel
theorem dX7_seeds_58 : decode cX7_seeds 58 = .ok (.iadd, 1) := by decide +kernel
theorem dX7_seeds_59 : decode cX7_seeds 59 = .ok (.istore 4, 2) := by decide +kernel
theorem dX7_seeds_61 : decode cX7_seeds 61 = .ok (.iload 4, 2) := by decide +kernel
theorem dX7_seeds_63 : decode cX7_seeds 63 = .ok (.ldc_w 256, 3) := by decide +kernel
theorem dX7_seeds_66 : decode cX7_seeds 66 = .ok (.iand, 1) := by decide +kernel
theorem dX7_seeds_67 : decode cX7_seeds 67 = .ok (.ldc_w 257, 3) := by decide +kernel
theorem dX7_seeds_70 : decode cX7_seeds 70 = .ok (.idiv, 1) := by decide +kernel
theorem dX7_seeds_71 : decode cX7_seeds 71 = .ok (.aload_n 0, 1) := by decide +kernel
theorem dX7_seeds_72 : decode cX7_seeds 72 = .ok (.getfield 70, 3) := by decide +kernel
theorem dX7_seeds_75 : decode cX7_seeds 75 = .ok (.irem, 1) := by decide +kernel
theorem dX7_seeds_76 : decode cX7_seeds 76 = .ok (.istore 6, 2) := by decide +kernel
theorem dX7_seeds_78 : decode cX7_seeds 78 = .ok (.iload 4, 2) := by decide +kernel
theorem dX7_seeds_80 : decode cX7_seeds 80 = .ok (.ldc 255, 2) := by decide +kernel
theorem dX7_seeds_82 : decode cX7_seeds 82 = .ok (.imul, 1) := by decide +kernel
theorem dX7_seeds_83 : decode cX7_seeds 83 = .ok (.sipush 12345, 3) := by decide +kernel
theorem dX7_seeds_86 : decode cX7_seeds 86 = .ok (.iadd, 1) := by decide +kernel
theorem dX7_seeds_87 : decode cX7_seeds 87 = .ok (.istore 4, 2) := by decide +kernel
theorem dX7_seeds_89 : decode cX7_seeds 89 = .ok (.iload 4, 2) := by decide +kernel
theorem dX7_seeds_91 : decode cX7_seeds 91 = .ok (.ldc_w 256, 3) := by decide +kernel
theorem dX7_seeds_94 : decode cX7_seeds 94 = .ok (.iand, 1) := by decide +kernel
theorem dX7_seeds_95 : decode cX7_seeds 95 = .ok (.ldc_w 257, 3) := by decide +kernel
theorem dX7_seeds_98 : decode cX7_seeds 98 = .ok (.idiv, 1) := by decide +kernel
theorem dX7_seeds_99 : decode cX7_seeds 99 = .ok (.aload_n 0, 1) := by decide +kernel
theorem dX7_seeds_100 : decode cX7_seeds 100 = .ok (.getfield 70, 3) := by decide +kernel
theorem dX7_seeds_103 : decode cX7_seeds 103 = .ok (.irem, 1) := by decide +kernel
theorem dX7_seeds_104 : decode cX7_seeds 104 = .ok (.istore 7, 2) := by decide +kernel
theorem dX7_seeds_106 : decode cX7_seeds 106 = .ok (.iload 6, 2) := by decide +kernel
theorem dX7_seeds_108 : decode cX7_seeds 108 = .ok (.iload 7, 2) := by decide +kernel
theorem dX7_seeds_110 : decode cX7_seeds 110 = .ok (.if_icmp .eq 22, 3) := by decide +kernel
theorem dX7_seeds_113 : decode cX7_seeds 113 = .ok (.aload_n 0, 1) := by decide +kernel
theorem dX7_seeds_114 : decode cX7_seeds 114 = .ok (.iload 6, 2) := by decide +kernel
theorem dX7_seeds_116 : decode cX7_seeds 116 = .ok (.iload 7, 2) := by decide +kernel
theorem dX7_seeds_118 : decode cX7_seeds 118 = .ok (.invokevirtual 171, 3) := by decide +kernel
theorem dX7_seeds_121 : decode cX7_seeds 121 = .ok (.ifCond .eq 11, 3) := by decide +kernel
theorem dX7_seeds_124 : decode cX7_seeds 124 = .ok (.aload_n 0, 1) := by decide +kernel
theorem dX7_seeds_125 : decode cX7_seeds 125 = .ok (.iload 6, 2) := by decide +kernel
theorem dX7_seeds_127 : decode cX7_seeds 127 = .ok (.iload 7, 2) := by decide +kernel
theorem dX7_seeds_129 : decode cX7_seeds 129 = .ok (.invokevirtual 234, 3) := by decide +kernel
theorem dX7_seeds_132 : decode cX7_seeds 132 = .ok (.iinc 5 1, 3) := by decide +kernel
theorem dX7_seeds_135 : decode cX7_seeds 135 = .ok (.goto (-91), 3) := by decide +kernel
theorem dX7_seeds_138 : decode cX7_seeds 138 = .ok (.aload_n 0, 1) := by decide +kernel
theorem dX7_seeds_139 : decode cX7_seeds 139 = .ok (.invokevirtual 148, 3) := by decide +kernel
theorem dX7_seeds_142 : decode cX7_seeds 142 = .ok (.istore 5, 2) := by decide +kernel
theorem dX7_seeds_144 : decode cX7_seeds 144 = .ok (.aload_n 0, 1) := by decide +kernel
theorem dX7_seeds_145 : decode cX7_seeds 145 = .ok (.iconst 1, 1) := by decide +kernel
theorem dX7_seeds_146 : decode cX7_seeds 146 = .ok (.iconst 0, 1) := by decide +kernel
theorem dX7_seeds_147 : decode cX7_seeds 147 = .ok (.invokevirtual 124, 3) := by decide +kernel
theorem dX7_seeds_150 : decode cX7_seeds 150 = .ok (.iload 5, 2) := by decide +kernel
theorem dX7_seeds_152 : decode cX7_seeds 152 = .ok (.ireturn, 1) := by decide +kernel
set_option maxRecDepth 20000 in
theorem ggX7_count_X7_isIn : GoodIn wsX7_count wsX7_isIn := goodIn_r _ [10] (by decide +kernel) (by decide +kernel)
set_option maxRecDepth 20000 in
theorem gX7_count_X7_isIn : GoodIn wsX7_count (va_wsS RX7 99 yX7_isIn wsX7_isIn) := goodIn_app (goodIn_of _ (by decide +kernel)) ggX7_count_X7_isIn
set_option maxRecDepth 20000 in
theorem ggX7_count_X7_pairsDanced : GoodIn wsX7_count wsX7_pairsDanced := goodIn_r _ [14, 2, 15, 16, 17, 9, 18, 41, 42, 43, 44, 45, 46, 47, 48, 49, 50, 51, 52, 53, 54, 55, 56, 57, 58, 59, 60, 61, 62, 63, 64, 65, 66, 67, 68, 69, 70, 71, 72, 73] (by decide +kernel) (by decide +kernel)
set_option maxRecDepth 20000 in
theorem gX7_count_X7_pairsDanced : GoodIn wsX7_count (wsV RX7 148 RX7 yX7_pairsDanced wsX7_pairsDanced) := goodIn_app (goodIn_of _ (by decide +kernel)) ggX7_count_X7_pairsDanced
set_option maxRecDepth 20000 in
theorem ggX7_count_X7_mayDance : GoodIn wsX7_count wsX7_mayDance := goodIn_r _ [22, 3, 23, 24, 25, 9, 26, 15, 27, 28, 29, 30, 31, 32, 33, 34, 35, 36, 2, 37, 38, 39, 40, 4, 16, 17, 18, 41, 42, 43, 44, 45, 46, 47, 48, 49, 50, 51, 52, 53, 54, 55, 56, 57, 58, 59, 60, 61, 62, 63, 64, 65, 66, 67, 68, 69, 70, 71, 72, 73] (by decide +kernel) (by decide +kernel)
set_option maxRecDepth 20000 in
theorem gX7_count_X7_mayDance : GoodIn wsX7_count (wsV RX7 171 RX7 yX7_mayDance wsX7_mayDance) := goodIn_app (goodIn_of _ (by decide +kernel)) ggX7_count_X7_mayDance
theorem dX7_count_0 : decode cX7_count 0 = .ok (.iload_n 1, 1) := by decide +kernel
theorem dX7_count_1 : decode cX7_count 1 = .ok (.bipush 11, 2) := by decide +kernel
theorem dX7_count_3 : decode cX7_count 3 = .ok (.bipush 16, 2) := by decide +kernel
theorem dX7_count_5 : decode cX7_count 5 = .ok (.invokestatic 99, 3) := by decide +kernel
theorem dX7_count_8 : decode cX7_count 8 = .ok (.ifCond .eq 13, 3) := by decide +kernel
theorem dX7_count_11 : decode cX7_count 11 = .ok (.aload_n 0, 1) := by decide +kernel
theorem dX7_count_12 : decode cX7_count 12 = .ok (.getfield 7, 3) := by decide +kernel
theorem dX7_count_15 : decode cX7_count 15 = .ok (.iload_n 1, 1) := by decide +kernel
theorem dX7_count_16 : decode cX7_count 16 = .ok (.bipush 10, 2) := by decide +kernel
theorem dX7_count_18 : decode cX7_count 18 = .ok (.isub, 1) := by decide +kernel
theorem dX7_count_19 : decode cX7_count 19 = .ok (.iaload, 1) := by decide +kernel
theorem dX7_count_20 : decode cX7_count 20 = .ok (.ireturn, 1) := by decide +kernel
theorem dX7_count_21 : decode cX7_count 21 = .ok (.iconst 0, 1) := by decide +kernel
theorem dX7_count_22 : decode cX7_count 22 = .ok (.istore_n 2, 1) := by decide +kernel
theorem dX7_count_23 : decode cX7_count 23 = .ok (.iload_n 1, 1) := by decide +kernel
theorem dX7_count_24 : decode cX7_count 24 = .ok (.tableswitch 147 0 6 #[44, 49, 54, 105, 110, 137, 142], 44) := by decide +kernel
theorem dX7_count_68 : decode cX7_count 68 = .ok (.aload_n 0, 1) := by decide +kernel
theorem dX7_count_69 : decode cX7_count 69 = .ok (.getfield 70, 3) := by decide +kernel
theorem dX7_count_72 : decode cX7_count 72 = .ok (.ireturn, 1) := by decide +kernel
theorem dX7_count_73 : decode cX7_count 73 = .ok (.aload_n 0, 1) := by decide +kernel
theorem dX7_count_74 : decode cX7_count 74 = .ok (.invokevirtual 148, 3) := by decide +kernel
theorem dX7_count_77 : decode cX7_count 77 = .ok (.ireturn, 1) := by decide +kernel
theorem dX7_count_78 : decode cX7_count 78 = .ok (.iconst 0, 1) := by decide +kernel
theorem dX7_count_79 : decode cX7_count 79 = .ok (.istore_n 3, 1) := by decide +kernel
theorem dX7_count_80 : decode cX7_count 80 = .ok (.iload_n 3, 1) := by decide +kernel
theorem dX7_count_81 : decode cX7_count 81 = .ok (.aload_n 0, 1) := by decide +kernel
theorem dX7_count_82 : decode cX7_count 82 = .ok (.getfield 70, 3) := by decide +kernel
theorem dX7_count_85 : decode cX7_count 85 = .ok (.if_icmp .ge 42, 3) := by decide +kernel
theorem dX7_count_88 : decode cX7_count 88 = .ok (.iconst 0, 1) := by decide +kernel
theorem dX7_count_89 : decode cX7_count 89 = .ok (.istore 4, 2) := by decide +kernel
theorem dX7_count_91 : decode cX7_count 91 = .ok (.iload 4, 2) := by decide +kernel
theorem dX7_count_93 : decode cX7_count 93 = .ok (.iload_n 3, 1) := by decide +kernel
theorem dX7_count_94 : decode cX7_count 94 = .ok (.if_icmp .ge 27, 3) := by decide +kernel
theorem dX7_count_97 : decode cX7_count 97 = .ok (.iload_n 2, 1) := by decide +kernel
theorem dX7_count_98 : decode cX7_count 98 = .ok (.aload_n 0, 1) := by decide +kernel
theorem dX7_count_99 : decode cX7_count 99 = .ok (.iload_n 3, 1) := by decide +kernel
theorem dX7_count_100 : decode cX7_count 100 = .ok (.iload 4, 2) := by decide +kernel
theorem dX7_count_102 : decode cX7_count 102 = .ok (.invokevirtual 171, 3) := by decide +kernel
theorem dX7_count_105 : decode cX7_count 105 = .ok (.ifCond .eq 7, 3) := by decide +kernel
theorem dX7_count_108 : decode cX7_count 108 = .ok (.iconst 1, 1) := by decide +kernel
theorem dX7_count_109 : decode cX7_count 109 = .ok (.goto 4, 3) := by decide +kernel
theorem dX7_count_112 : decode cX7_count 112 = .ok (.iconst 0, 1) := by decide +kernel
theorem dX7_count_113 : decode cX7_count 113 = .ok (.iadd, 1) := by decide +kernel
theorem dX7_count_114 : decode cX7_count 114 = .ok (.istore_n 2, 1) := by decide +kernel
theorem dX7_count_115 : decode cX7_count 115 = .ok (.iinc 4 1, 3) := by decide +kernel
theorem dX7_count_118 : decode cX7_count 118 = .ok (.goto (-27), 3) := by decide +kernel
theorem dX7_count_121 : decode cX7_count 121 = .ok (.iinc 3 1, 3) := by decide +kernel
theorem dX7_count_124 : decode cX7_count 124 = .ok (.goto (-44), 3) := by decide +kernel
theorem dX7_count_127 : decode cX7_count 127 = .ok (.iload_n 2, 1) := by decide +kernel
theorem dX7_count_128 : decode cX7_count 128 = .ok (.ireturn, 1) := by decide +kernel
theorem dX7_count_129 : decode cX7_count 129 = .ok (.aload_n 0, 1) := by decide +kernel
theorem dX7_count_130 : decode cX7_count 130 = .ok (.getfield 109, 3) := by decide +kernel
theorem dX7_count_133 : decode cX7_count 133 = .ok (.ireturn, 1) := by decide +kernel
theorem dX7_count_134 : decode cX7_count 134 = .ok (.iconst 0, 1) := by decide +kernel
theorem dX7_count_135 : decode cX7_count 135 = .ok (.istore_n 3, 1) := by decide +kernel
theorem dX7_count_136 : decode cX7_count 136 = .ok (.iload_n 3, 1) := by decide +kernel
theorem dX7_count_137 : decode cX7_count 137 = .ok (.aload_n 0, 1) := by decide +kernel
theorem dX7_count_138 : decode cX7_count 138 = .ok (.getfield 70, 3) := by decide +kernel
theorem dX7_count_141 : decode cX7_count 141 = .ok (.if_icmp .ge 18, 3) := by decide +kernel
theorem dX7_count_144 : decode cX7_count 144 = .ok (.iload_n 2, 1) := by decide +kernel
theorem dX7_count_145 : decode cX7_count 145 = .ok (.aload_n 0, 1) := by decide +kernel
theorem dX7_count_146 : decode cX7_count 146 = .ok (.getfield 19, 3) := by decide +kernel
theorem dX7_count_149 : decode cX7_count 149 = .ok (.iload_n 3, 1) := by decide +kernel
theorem dX7_count_150 : decode cX7_count 150 = .ok (.iaload, 1) := by decide +kernel
theorem dX7_count_151 : decode cX7_count 151 = .ok (.iadd, 1) := by decide +kernel
theorem dX7_count_152 : decode cX7_count 152 = .ok (.istore_n 2, 1) := by decide +kernel
theorem dX7_count_153 : decode cX7_count 153 = .ok (.iinc 3 1, 3) := by decide +kernel
theorem dX7_count_156 : decode cX7_count 156 = .ok (.goto (-20), 3) := by decide +kernel
theorem dX7_count_159 : decode cX7_count 159 = .ok (.iload_n 2, 1) := by decide +kernel
theorem dX7_count_160 : decode cX7_count 160 = .ok (.ireturn, 1) := by decide +kernel
theorem dX7_count_161 : decode cX7_count 161 = .ok (.aload_n 0, 1) := by decide +kernel
theorem dX7_count_162 : decode cX7_count 162 = .ok (.getfield 86, 3) := by decide +kernel
theorem dX7_count_165 : decode cX7_count 165 = .ok (.ireturn, 1) := by decide +kernel
theorem dX7_count_166 : decode cX7_count 166 = .ok (.aload_n 0, 1) := by decide +kernel
theorem dX7_count_167 : decode cX7_count 167 = .ok (.getfield 231, 3) := by decide +kernel
theorem dX7_count_170 : decode cX7_count 170 = .ok (.ireturn, 1) := by decide +kernel
theorem dX7_count_171 : decode cX7_count 171 = .ok (.bipush (-9), 2) := by decide +kernel
theorem dX7_count_173 : decode cX7_count 173 = .ok (.ireturn, 1) := by decide +kernel
theorem dJ6_bitCount_0f7a4_0 : decode cJ6_bitCount_0f7a4 0 = .ok (.iload_n 0, 1) := by decide +kernel
theorem dJ6_bitCount_0f7a4_1 : decode cJ6_bitCount_0f7a4 1 = .ok (.iload_n 0, 1) := by decide +kernel
theorem dJ6_bitCount_0f7a4_2 : decode cJ6_bitCount_0f7a4 2 = .ok (.iconst 1, 1) := by decide +kernel
theorem dJ6_bitCount_0f7a4_3 : decode cJ6_bitCount_0f7a4 3 = .ok (.iushr, 1) := by decide +kernel
theorem dJ6_bitCount_0f7a4_4 : decode cJ6_bitCount_0f7a4 4 = .ok (.ldc_w 265, 3) := by decide +kernel
theorem dJ6_bitCount_0f7a4_7 : decode cJ6_bitCount_0f7a4 7 = .ok (.iand, 1) := by decide +kernel
theorem dJ6_bitCount_0f7a4_8 : decode cJ6_bitCount_0f7a4 8 = .ok (.isub, 1) := by decide +kernel
theorem dJ6_bitCount_0f7a4_9 : decode cJ6_bitCount_0f7a4 9 = .ok (.istore_n 0, 1) := by decide +kernel
theorem dJ6_bitCount_0f7a4_10 : decode cJ6_bitCount_0f7a4 10 = .ok (.iload_n 0, 1) := by decide +kernel
theorem dJ6_bitCount_0f7a4_11 : decode cJ6_bitCount_0f7a4 11 = .ok (.ldc_w 266, 3) := by decide +kernel
theorem dJ6_bitCount_0f7a4_14 : decode cJ6_bitCount_0f7a4 14 = .ok (.iand, 1) := by decide +kernel
theorem dJ6_bitCount_0f7a4_15 : decode cJ6_bitCount_0f7a4 15 = .ok (.iload_n 0, 1) := by decide +kernel
theorem dJ6_bitCount_0f7a4_16 : decode cJ6_bitCount_0f7a4 16 = .ok (.iconst 2, 1) := by decide +kernel
theorem dJ6_bitCount_0f7a4_17 : decode cJ6_bitCount_0f7a4 17 = .ok (.iushr, 1) := by decide +kernel
theorem dJ6_bitCount_0f7a4_18 : decode cJ6_bitCount_0f7a4 18 = .ok (.ldc_w 266, 3) := by decide +kernel
theorem dJ6_bitCount_0f7a4_21 : decode cJ6_bitCount_0f7a4 21 = .ok (.iand, 1) := by decide +kernel
theorem dJ6_bitCount_0f7a4_22 : decode cJ6_bitCount_0f7a4 22 = .ok (.iadd, 1) := by decide +kernel
theorem dJ6_bitCount_0f7a4_23 : decode cJ6_bitCount_0f7a4 23 = .ok (.istore_n 0, 1) := by decide +kernel
theorem dJ6_bitCount_0f7a4_24 : decode cJ6_bitCount_0f7a4 24 = .ok (.iload_n 0, 1) := by decide +kernel
theorem dJ6_bitCount_0f7a4_25 : decode cJ6_bitCount_0f7a4 25 = .ok (.iload_n 0, 1) := by decide +kernel
theorem dJ6_bitCount_0f7a4_26 : decode cJ6_bitCount_0f7a4 26 = .ok (.iconst 4, 1) := by decide +kernel
theorem dJ6_bitCount_0f7a4_27 : decode cJ6_bitCount_0f7a4 27 = .ok (.iushr, 1) := by decide +kernel
theorem dJ6_bitCount_0f7a4_28 : decode cJ6_bitCount_0f7a4 28 = .ok (.iadd, 1) := by decide +kernel
theorem dJ6_bitCount_0f7a4_29 : decode cJ6_bitCount_0f7a4 29 = .ok (.ldc_w 267, 3) := by decide +kernel
theorem dJ6_bitCount_0f7a4_32 : decode cJ6_bitCount_0f7a4 32 = .ok (.iand, 1) := by decide +kernel
theorem dJ6_bitCount_0f7a4_33 : decode cJ6_bitCount_0f7a4 33 = .ok (.istore_n 0, 1) := by decide +kernel
theorem dJ6_bitCount_0f7a4_34 : decode cJ6_bitCount_0f7a4 34 = .ok (.iload_n 0, 1) := by decide +kernel
theorem dJ6_bitCount_0f7a4_35 : decode cJ6_bitCount_0f7a4 35 = .ok (.iload_n 0, 1) := by decide +kernel
theorem dJ6_bitCount_0f7a4_36 : decode cJ6_bitCount_0f7a4 36 = .ok (.bipush 8, 2) := by decide +kernel
theorem dJ6_bitCount_0f7a4_38 : decode cJ6_bitCount_0f7a4 38 = .ok (.iushr, 1) := by decide +kernel
theorem dJ6_bitCount_0f7a4_39 : decode cJ6_bitCount_0f7a4 39 = .ok (.iadd, 1) := by decide +kernel
theorem dJ6_bitCount_0f7a4_40 : decode cJ6_bitCount_0f7a4 40 = .ok (.istore_n 0, 1) := by decide +kernel
theorem dJ6_bitCount_0f7a4_41 : decode cJ6_bitCount_0f7a4 41 = .ok (.iload_n 0, 1) := by decide +kernel
theorem dJ6_bitCount_0f7a4_42 : decode cJ6_bitCount_0f7a4 42 = .ok (.iload_n 0, 1) := by decide +kernel
theorem dJ6_bitCount_0f7a4_43 : decode cJ6_bitCount_0f7a4 43 = .ok (.bipush 16, 2) := by decide +kernel
theorem dJ6_bitCount_0f7a4_45 : decode cJ6_bitCount_0f7a4 45 = .ok (.iushr, 1) := by decide +kernel
theorem dJ6_bitCount_0f7a4_46 : decode cJ6_bitCount_0f7a4 46 = .ok (.iadd, 1) := by decide +kernel
theorem dJ6_bitCount_0f7a4_47 : decode cJ6_bitCount_0f7a4 47 = .ok (.istore_n 0, 1) := by decide +kernel
theorem dJ6_bitCount_0f7a4_48 : decode cJ6_bitCount_0f7a4 48 = .ok (.iload_n 0, 1) := by decide +kernel
theorem dJ6_bitCount_0f7a4_49 : decode cJ6_bitCount_0f7a4 49 = .ok (.bipush 63, 2) := by decide +kernel
theorem dJ6_bitCount_0f7a4_51 : decode cJ6_bitCount_0f7a4 51 = .ok (.iand, 1) := by decide +kernel
theorem dJ6_bitCount_0f7a4_52 : decode cJ6_bitCount_0f7a4 52 = .ok (.ireturn, 1) := by decide +kernel
theorem dJ9_max_7cf53_0 : decode cJ9_max_7cf53 0 = .ok (.iload_n 0, 1) := by decide +kernel
theorem dJ9_max_7cf53_1 : decode cJ9_max_7cf53 1 = .ok (.iload_n 1, 1) := by decide +kernel
theorem dJ9_max_7cf53_2 : decode cJ9_max_7cf53 2 = .ok (.if_icmp .lt 7, 3) := by decide +kernel
theorem dJ9_max_7cf53_5 : decode cJ9_max_7cf53 5 = .ok (.iload_n 0, 1) := by decide +kernel
theorem dJ9_max_7cf53_6 : decode cJ9_max_7cf53 6 = .ok (.goto 4, 3) := by decide +kernel
theorem dJ9_max_7cf53_9 : decode cJ9_max_7cf53 9 = .ok (.iload_n 1, 1) := by decide +kernel
theorem dJ9_max_7cf53_10 : decode cJ9_max_7cf53 10 = .ok (.ireturn, 1) := by decide +kernel
theorem dJ9_min_7cf53_0 : decode cJ9_min_7cf53 0 = .ok (.iload_n 0, 1) := by decide +kernel
theorem dJ9_min_7cf53_1 : decode cJ9_min_7cf53 1 = .ok (.iload_n 1, 1) := by decide +kernel
theorem dJ9_min_7cf53_2 : decode cJ9_min_7cf53 2 = .ok (.if_icmp .gt 7, 3) := by decide +kernel
theorem dJ9_min_7cf53_5 : decode cJ9_min_7cf53 5 = .ok (.iload_n 0, 1) := by decide +kernel
theorem dJ9_min_7cf53_6 : decode cJ9_min_7cf53 6 = .ok (.goto 4, 3) := by decide +kernel
theorem dJ9_min_7cf53_9 : decode cJ9_min_7cf53 9 = .ok (.iload_n 1, 1) := by decide +kernel
theorem dJ9_min_7cf53_10 : decode cJ9_min_7cf53 10 = .ok (.ireturn, 1) := by decide +kernel
abbrev vwCl : List vw_C := [(RX0, TX0, 7), (RX1, TX1, 3), (RX2, TX2, 6), (RX3, TX3, 1), (RX4, TX4, 3), (RX5, TX5, 3), (RX6, TX6, 8), (RX7, TX7, 33)]
