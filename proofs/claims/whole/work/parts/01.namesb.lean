theorem dX0_init_1 : decode cX0_init 1 = .ok (.invokespecial 3, 3) := by decide +kernel
theorem dX0_init_4 : decode cX0_init 4 = .ok (.aload_n 0, 1) := by decide +kernel
theorem dX0_init_5 : decode cX0_init 5 = .ok (.iconst 0, 1) := by decide +kernel
theorem dX0_init_6 : decode cX0_init 6 = .ok (.putfield 9, 3) := by decide +kernel
theorem dX0_init_9 : decode cX0_init 9 = .ok (.aload_n 0, 1) := by decide +kernel
theorem dX0_init_10 : decode cX0_init 10 = .ok (.iconst 0, 1) := by decide +kernel
theorem dX0_init_11 : decode cX0_init 11 = .ok (.putfield 15, 3) := by decide +kernel
theorem dX0_init_14 : decode cX0_init 14 = .ok (.aload_n 0, 1) := by decide +kernel
theorem dX0_init_15 : decode cX0_init 15 = .ok (.iconst 0, 1) := by decide +kernel
theorem dX0_init_16 : decode cX0_init 16 = .ok (.putfield 18, 3) := by decide +kernel
theorem dX0_init_19 : decode cX0_init 19 = .ok (.aload_n 0, 1) := by decide +kernel
theorem dX0_init_20 : decode cX0_init 20 = .ok (.iconst 0, 1) := by decide +kernel
theorem dX0_init_21 : decode cX0_init 21 = .ok (.putfield 21, 3) := by decide +kernel
theorem dX0_init_24 : decode cX0_init 24 = .ok (.aload_n 0, 1) := by decide +kernel
theorem dX0_init_25 : decode cX0_init 25 = .ok (.bipush 8, 2) := by decide +kernel
theorem dX0_init_27 : decode cX0_init 27 = .ok (.newarray .int, 2) := by decide +kernel
theorem dX0_init_29 : decode cX0_init 29 = .ok (.putfield 24, 3) := by decide +kernel
theorem dX0_init_32 : decode cX0_init 32 = .ok (.aload_n 0, 1) := by decide +kernel
theorem dX0_init_33 : decode cX0_init 33 = .ok (.bipush 8, 2) := by decide +kernel
theorem dX0_init_35 : decode cX0_init 35 = .ok (.newarray .int, 2) := by decide +kernel
theorem dX0_init_37 : decode cX0_init 37 = .ok (.putfield 28, 3) := by decide +kernel
theorem dX0_init_40 : decode cX0_init 40 = .ok (.aload_n 0, 1) := by decide +kernel
theorem dX0_init_41 : decode cX0_init 41 = .ok (.bipush 8, 2) := by decide +kernel
theorem dX0_init_43 : decode cX0_init 43 = .ok (.newarray .int, 2) := by decide +kernel
theorem dX0_init_45 : decode cX0_init 45 = .ok (.putfield 31, 3) := by decide +kernel
theorem dX0_init_48 : decode cX0_init 48 = .ok (.return_, 1) := by decide +kernel
set_option maxRecDepth 20000 in
theorem ggX0_begin_X0_cousinsOf : GoodIn wsX0_begin wsX0_cousinsOf := goodIn_r _ [13, 1, 14, 15, 16, 17, 18, 19, 20, 21, 22, 23, 24, 25, 26] (by decide +kernel) (by decide +kernel)
set_option maxRecDepth 20000 in
theorem gX0_begin_X0_cousinsOf : GoodIn wsX0_begin (va_wsS RX0 39 yX0_cousinsOf wsX0_cousinsOf) := goodIn_app (goodIn_of _ (by decide +kernel)) ggX0_begin_X0_cousinsOf
theorem dX0_begin_0 : decode cX0_begin 0 = .ok (.aload_n 0, 1) := by decide +kernel
theorem dX0_begin_1 : decode cX0_begin 1 = .ok (.aload_n 1, 1) := by decide +kernel
theorem dX0_begin_2 : decode cX0_begin 2 = .ok (.getfield 34, 3) := by decide +kernel
theorem dX0_begin_5 : decode cX0_begin 5 = .ok (.putfield 9, 3) := by decide +kernel
theorem dX0_begin_8 : decode cX0_begin 8 = .ok (.aload_n 0, 1) := by decide +kernel
theorem dX0_begin_9 : decode cX0_begin 9 = .ok (.aload_n 1, 1) := by decide +kernel
theorem dX0_begin_10 : decode cX0_begin 10 = .ok (.getfield 37, 3) := by decide +kernel
theorem dX0_begin_13 : decode cX0_begin 13 = .ok (.putfield 15, 3) := by decide +kernel
theorem dX0_begin_16 : decode cX0_begin 16 = .ok (.aload_n 0, 1) := by decide +kernel
theorem dX0_begin_17 : decode cX0_begin 17 = .ok (.iconst 1, 1) := by decide +kernel
theorem dX0_begin_18 : decode cX0_begin 18 = .ok (.aload_n 0, 1) := by decide +kernel
theorem dX0_begin_19 : decode cX0_begin 19 = .ok (.getfield 9, 3) := by decide +kernel
theorem dX0_begin_22 : decode cX0_begin 22 = .ok (.ishl, 1) := by decide +kernel
theorem dX0_begin_23 : decode cX0_begin 23 = .ok (.iconst 1, 1) := by decide +kernel
theorem dX0_begin_24 : decode cX0_begin 24 = .ok (.isub, 1) := by decide +kernel
theorem dX0_begin_25 : decode cX0_begin 25 = .ok (.putfield 18, 3) := by decide +kernel
theorem dX0_begin_28 : decode cX0_begin 28 = .ok (.aload_n 0, 1) := by decide +kernel
theorem dX0_begin_29 : decode cX0_begin 29 = .ok (.iconst 0, 1) := by decide +kernel
theorem dX0_begin_30 : decode cX0_begin 30 = .ok (.putfield 21, 3) := by decide +kernel
theorem dX0_begin_33 : decode cX0_begin 33 = .ok (.iconst 0, 1) := by decide +kernel
theorem dX0_begin_34 : decode cX0_begin 34 = .ok (.istore_n 2, 1) := by decide +kernel
theorem dX0_begin_35 : decode cX0_begin 35 = .ok (.iload_n 2, 1) := by decide +kernel
theorem dX0_begin_36 : decode cX0_begin 36 = .ok (.aload_n 0, 1) := by decide +kernel
theorem dX0_begin_37 : decode cX0_begin 37 = .ok (.getfield 9, 3) := by decide +kernel
theorem dX0_begin_40 : decode cX0_begin 40 = .ok (.if_icmp .ge 32, 3) := by decide +kernel
theorem dX0_begin_43 : decode cX0_begin 43 = .ok (.aload_n 0, 1) := by decide +kernel
theorem dX0_begin_44 : decode cX0_begin 44 = .ok (.getfield 24, 3) := by decide +kernel
theorem dX0_begin_47 : decode cX0_begin 47 = .ok (.iload_n 2, 1) := by decide +kernel
theorem dX0_begin_48 : decode cX0_begin 48 = .ok (.aload_n 1, 1) := by decide +kernel
theorem dX0_begin_49 : decode cX0_begin 49 = .ok (.getfield 38, 3) := by decide +kernel
theorem dX0_begin_52 : decode cX0_begin 52 = .ok (.iload_n 2, 1) := by decide +kernel
theorem dX0_begin_53 : decode cX0_begin 53 = .ok (.iaload, 1) := by decide +kernel
theorem dX0_begin_54 : decode cX0_begin 54 = .ok (.iastore, 1) := by decide +kernel
theorem dX0_begin_55 : decode cX0_begin 55 = .ok (.aload_n 0, 1) := by decide +kernel
theorem dX0_begin_56 : decode cX0_begin 56 = .ok (.getfield 31, 3) := by decide +kernel
theorem dX0_begin_59 : decode cX0_begin 59 = .ok (.iload_n 2, 1) := by decide +kernel
theorem dX0_begin_60 : decode cX0_begin 60 = .ok (.aload_n 1, 1) := by decide +kernel
theorem dX0_begin_61 : decode cX0_begin 61 = .ok (.iload_n 2, 1) := by decide +kernel
theorem dX0_begin_62 : decode cX0_begin 62 = .ok (.invokestatic 39, 3) := by decide +kernel
theorem dX0_begin_65 : decode cX0_begin 65 = .ok (.iastore, 1) := by decide +kernel
theorem dX0_begin_66 : decode cX0_begin 66 = .ok (.iinc 2 1, 3) := by decide +kernel
theorem dX0_begin_69 : decode cX0_begin 69 = .ok (.goto (-34), 3) := by decide +kernel
theorem dX0_begin_72 : decode cX0_begin 72 = .ok (.return_, 1) := by decide +kernel
set_option maxRecDepth 20000 in
theorem ggX0_cousinsOf_X2_areCousinsOfOneFigure : GoodIn wsX0_cousinsOf wsX2_areCousinsOfOneFigure := goodIn_r _ [6, 7, 8, 9, 10, 11, 12, 13, 14] (by decide +kernel) (by decide +kernel)
set_option maxRecDepth 20000 in
theorem gX0_cousinsOf_X2_areCousinsOfOneFigure : GoodIn wsX0_cousinsOf (wsV RX0 43 RX2 yX2_areCousinsOfOneFigure wsX2_areCousinsOfOneFigure) := goodIn_app (goodIn_of _ (by decide +kernel)) ggX0_cousinsOf_X2_areCousinsOfOneFigure
theorem dX0_cousinsOf_0 : decode cX0_cousinsOf 0 = .ok (.iconst 0, 1) := by decide +kernel
theorem dX0_cousinsOf_1 : decode cX0_cousinsOf 1 = .ok (.istore_n 2, 1) := by decide +kernel
theorem dX0_cousinsOf_2 : decode cX0_cousinsOf 2 = .ok (.iconst 0, 1) := by decide +kernel
theorem dX0_cousinsOf_3 : decode cX0_cousinsOf 3 = .ok (.istore_n 3, 1) := by decide +kernel
theorem dX0_cousinsOf_4 : decode cX0_cousinsOf 4 = .ok (.iload_n 3, 1) := by decide +kernel
theorem dX0_cousinsOf_5 : decode cX0_cousinsOf 5 = .ok (.aload_n 0, 1) := by decide +kernel
theorem dX0_cousinsOf_6 : decode cX0_cousinsOf 6 = .ok (.getfield 34, 3) := by decide +kernel
theorem dX0_cousinsOf_9 : decode cX0_cousinsOf 9 = .ok (.if_icmp .ge 29, 3) := by decide +kernel
theorem dX0_cousinsOf_12 : decode cX0_cousinsOf 12 = .ok (.iload_n 3, 1) := by decide +kernel
theorem dX0_cousinsOf_13 : decode cX0_cousinsOf 13 = .ok (.iload_n 1, 1) := by decide +kernel
theorem dX0_cousinsOf_14 : decode cX0_cousinsOf 14 = .ok (.if_icmp .eq 18, 3) := by decide +kernel
theorem dX0_cousinsOf_17 : decode cX0_cousinsOf 17 = .ok (.aload_n 0, 1) := by decide +kernel
theorem dX0_cousinsOf_18 : decode cX0_cousinsOf 18 = .ok (.iload_n 1, 1) := by decide +kernel
theorem dX0_cousinsOf_19 : decode cX0_cousinsOf 19 = .ok (.iload_n 3, 1) := by decide +kernel
theorem dX0_cousinsOf_20 : decode cX0_cousinsOf 20 = .ok (.invokevirtual 43, 3) := by decide +kernel
theorem dX0_cousinsOf_23 : decode cX0_cousinsOf 23 = .ok (.ifCond .eq 9, 3) := by decide +kernel
theorem dX0_cousinsOf_26 : decode cX0_cousinsOf 26 = .ok (.iload_n 2, 1) := by decide +kernel
theorem dX0_cousinsOf_27 : decode cX0_cousinsOf 27 = .ok (.iconst 1, 1) := by decide +kernel
theorem dX0_cousinsOf_28 : decode cX0_cousinsOf 28 = .ok (.iload_n 3, 1) := by decide +kernel
theorem dX0_cousinsOf_29 : decode cX0_cousinsOf 29 = .ok (.ishl, 1) := by decide +kernel
theorem dX0_cousinsOf_30 : decode cX0_cousinsOf 30 = .ok (.ior, 1) := by decide +kernel
theorem dX0_cousinsOf_31 : decode cX0_cousinsOf 31 = .ok (.istore_n 2, 1) := by decide +kernel
theorem dX0_cousinsOf_32 : decode cX0_cousinsOf 32 = .ok (.iinc 3 1, 3) := by decide +kernel
theorem dX0_cousinsOf_35 : decode cX0_cousinsOf 35 = .ok (.goto (-31), 3) := by decide +kernel
theorem dX0_cousinsOf_38 : decode cX0_cousinsOf 38 = .ok (.iload_n 2, 1) := by decide +kernel
theorem dX0_cousinsOf_39 : decode cX0_cousinsOf 39 = .ok (.ireturn, 1) := by decide +kernel
theorem dX0_copyFrom_0 : decode cX0_copyFrom 0 = .ok (.aload_n 0, 1) := by decide +kernel
theorem dX0_copyFrom_1 : decode cX0_copyFrom 1 = .ok (.aload_n 1, 1) := by decide +kernel
theorem dX0_copyFrom_2 : decode cX0_copyFrom 2 = .ok (.getfield 9, 3) := by decide +kernel
theorem dX0_copyFrom_5 : decode cX0_copyFrom 5 = .ok (.putfield 9, 3) := by decide +kernel
theorem dX0_copyFrom_8 : decode cX0_copyFrom 8 = .ok (.aload_n 0, 1) := by decide +kernel
theorem dX0_copyFrom_9 : decode cX0_copyFrom 9 = .ok (.aload_n 1, 1) := by decide +kernel
theorem dX0_copyFrom_10 : decode cX0_copyFrom 10 = .ok (.getfield 15, 3) := by decide +kernel
theorem dX0_copyFrom_13 : decode cX0_copyFrom 13 = .ok (.putfield 15, 3) := by decide +kernel
theorem dX0_copyFrom_16 : decode cX0_copyFrom 16 = .ok (.aload_n 0, 1) := by decide +kernel
theorem dX0_copyFrom_17 : decode cX0_copyFrom 17 = .ok (.aload_n 1, 1) := by decide +kernel
theorem dX0_copyFrom_18 : decode cX0_copyFrom 18 = .ok (.getfield 18, 3) := by decide +kernel
theorem dX0_copyFrom_21 : decode cX0_copyFrom 21 = .ok (.putfield 18, 3) := by decide +kernel
theorem dX0_copyFrom_24 : decode cX0_copyFrom 24 = .ok (.aload_n 0, 1) := by decide +kernel
theorem dX0_copyFrom_25 : decode cX0_copyFrom 25 = .ok (.aload_n 1, 1) := by decide +kernel
theorem dX0_copyFrom_26 : decode cX0_copyFrom 26 = .ok (.getfield 21, 3) := by decide +kernel
theorem dX0_copyFrom_29 : decode cX0_copyFrom 29 = .ok (.putfield 21, 3) := by decide +kernel
theorem dX0_copyFrom_32 : decode cX0_copyFrom 32 = .ok (.iconst 0, 1) := by decide +kernel
theorem dX0_copyFrom_33 : decode cX0_copyFrom 33 = .ok (.istore_n 2, 1) := by decide +kernel
theorem dX0_copyFrom_34 : decode cX0_copyFrom 34 = .ok (.iload_n 2, 1) := by decide +kernel
theorem dX0_copyFrom_35 : decode cX0_copyFrom 35 = .ok (.bipush 8, 2) := by decide +kernel
theorem dX0_copyFrom_37 : decode cX0_copyFrom 37 = .ok (.if_icmp .ge 33, 3) := by decide +kernel
theorem dX0_copyFrom_40 : decode cX0_copyFrom 40 = .ok (.aload_n 0, 1) := by decide +kernel
theorem dX0_copyFrom_41 : decode cX0_copyFrom 41 = .ok (.getfield 24, 3) := by decide +kernel
theorem dX0_copyFrom_44 : decode cX0_copyFrom 44 = .ok (.iload_n 2, 1) := by decide +kernel
theorem dX0_copyFrom_45 : decode cX0_copyFrom 45 = .ok (.aload_n 1, 1) := by decide +kernel
theorem dX0_copyFrom_46 : decode cX0_copyFrom 46 = .ok (.getfield 24, 3) := by decide +kernel
theorem dX0_copyFrom_49 : decode cX0_copyFrom 49 = .ok (.iload_n 2, 1) := by decide +kernel
theorem dX0_copyFrom_50 : decode cX0_copyFrom 50 = .ok (.iaload, 1) := by decide +kernel
theorem dX0_copyFrom_51 : decode cX0_copyFrom 51 = .ok (.iastore, 1) := by decide +kernel
theorem dX0_copyFrom_52 : decode cX0_copyFrom 52 = .ok (.aload_n 0, 1) := by decide +kernel
theorem dX0_copyFrom_53 : decode cX0_copyFrom 53 = .ok (.getfield 31, 3) := by decide +kernel
theorem dX0_copyFrom_56 : decode cX0_copyFrom 56 = .ok (.iload_n 2, 1) := by decide +kernel
theorem dX0_copyFrom_57 : decode cX0_copyFrom 57 = .ok (.aload_n 1, 1) := by decide +kernel
theorem dX0_copyFrom_58 : decode cX0_copyFrom 58 = .ok (.getfield 31, 3) := by decide +kernel
theorem dX0_copyFrom_61 : decode cX0_copyFrom 61 = .ok (.iload_n 2, 1) := by decide +kernel
theorem dX0_copyFrom_62 : decode cX0_copyFrom 62 = .ok (.iaload, 1) := by decide +kernel
theorem dX0_copyFrom_63 : decode cX0_copyFrom 63 = .ok (.iastore, 1) := by decide +kernel
theorem dX0_copyFrom_64 : decode cX0_copyFrom 64 = .ok (.iinc 2 1, 3) := by decide +kernel
theorem dX0_copyFrom_67 : decode cX0_copyFrom 67 = .ok (.goto (-33), 3) := by decide +kernel
theorem dX0_copyFrom_70 : decode cX0_copyFrom 70 = .ok (.return_, 1) := by decide +kernel
set_option maxRecDepth 20000 in
theorem ggX0_haveDanced_X6_hasBit : GoodIn wsX0_haveDanced wsX6_hasBit := goodIn_r _ [4] (by decide +kernel) (by decide +kernel)
set_option maxRecDepth 20000 in
theorem gX0_haveDanced_X6_hasBit_n47 : GoodIn wsX0_haveDanced (wsX6_hasBit) := ggX0_haveDanced_X6_hasBit
theorem dX0_haveDanced_0 : decode cX0_haveDanced 0 = .ok (.aload_n 0, 1) := by decide +kernel
theorem dX0_haveDanced_1 : decode cX0_haveDanced 1 = .ok (.getfield 24, 3) := by decide +kernel
theorem dX0_haveDanced_4 : decode cX0_haveDanced 4 = .ok (.iload_n 1, 1) := by decide +kernel
theorem dX0_haveDanced_5 : decode cX0_haveDanced 5 = .ok (.iaload, 1) := by decide +kernel
theorem dX0_haveDanced_6 : decode cX0_haveDanced 6 = .ok (.iload_n 2, 1) := by decide +kernel
theorem dX0_haveDanced_7 : decode cX0_haveDanced 7 = .ok (.invokestatic 47, 3) := by decide +kernel
theorem dX0_haveDanced_10 : decode cX0_haveDanced 10 = .ok (.ireturn, 1) := by decide +kernel
set_option maxRecDepth 20000 in
theorem ggX0_joinPair_X6_lesserOf : GoodIn wsX0_joinPair wsX6_lesserOf := goodIn_r _ [4] (by decide +kernel) (by decide +kernel)
set_option maxRecDepth 20000 in
theorem gX0_joinPair_X6_lesserOf_n50 : GoodIn wsX0_joinPair (wsX6_lesserOf) := ggX0_joinPair_X6_lesserOf
set_option maxRecDepth 20000 in
theorem ggX0_joinPair_X6_greaterOf : GoodIn wsX0_joinPair wsX6_greaterOf := goodIn_r _ [6] (by decide +kernel) (by decide +kernel)
set_option maxRecDepth 20000 in
theorem gX0_joinPair_X6_greaterOf_n54 : GoodIn wsX0_joinPair (wsX6_greaterOf) := ggX0_joinPair_X6_greaterOf
theorem dX0_joinPair_0 : decode cX0_joinPair 0 = .ok (.aload_n 0, 1) := by decide +kernel
theorem dX0_joinPair_1 : decode cX0_joinPair 1 = .ok (.getfield 24, 3) := by decide +kernel
theorem dX0_joinPair_4 : decode cX0_joinPair 4 = .ok (.iload_n 1, 1) := by decide +kernel
theorem dX0_joinPair_5 : decode cX0_joinPair 5 = .ok (.invokestatic 50, 3) := by decide +kernel
theorem dX0_joinPair_8 : decode cX0_joinPair 8 = .ok (.dup2, 1) := by decide +kernel
theorem dX0_joinPair_9 : decode cX0_joinPair 9 = .ok (.iaload, 1) := by decide +kernel
theorem dX0_joinPair_10 : decode cX0_joinPair 10 = .ok (.iconst 1, 1) := by decide +kernel
theorem dX0_joinPair_11 : decode cX0_joinPair 11 = .ok (.iload_n 1, 1) := by decide +kernel
theorem dX0_joinPair_12 : decode cX0_joinPair 12 = .ok (.invokestatic 54, 3) := by decide +kernel
theorem dX0_joinPair_15 : decode cX0_joinPair 15 = .ok (.ishl, 1) := by decide +kernel
theorem dX0_joinPair_16 : decode cX0_joinPair 16 = .ok (.ior, 1) := by decide +kernel
theorem dX0_joinPair_17 : decode cX0_joinPair 17 = .ok (.iastore, 1) := by decide +kernel
theorem dX0_joinPair_18 : decode cX0_joinPair 18 = .ok (.aload_n 0, 1) := by decide +kernel
theorem dX0_joinPair_19 : decode cX0_joinPair 19 = .ok (.getfield 24, 3) := by decide +kernel
theorem dX0_joinPair_22 : decode cX0_joinPair 22 = .ok (.iload_n 1, 1) := by decide +kernel
theorem dX0_joinPair_23 : decode cX0_joinPair 23 = .ok (.invokestatic 54, 3) := by decide +kernel
theorem dX0_joinPair_26 : decode cX0_joinPair 26 = .ok (.dup2, 1) := by decide +kernel
theorem dX0_joinPair_27 : decode cX0_joinPair 27 = .ok (.iaload, 1) := by decide +kernel
theorem dX0_joinPair_28 : decode cX0_joinPair 28 = .ok (.iconst 1, 1) := by decide +kernel
theorem dX0_joinPair_29 : decode cX0_joinPair 29 = .ok (.iload_n 1, 1) := by decide +kernel
theorem dX0_joinPair_30 : decode cX0_joinPair 30 = .ok (.invokestatic 50, 3) := by decide +kernel
theorem dX0_joinPair_33 : decode cX0_joinPair 33 = .ok (.ishl, 1) := by decide +kernel
theorem dX0_joinPair_34 : decode cX0_joinPair 34 = .ok (.ior, 1) := by decide +kernel
theorem dX0_joinPair_35 : decode cX0_joinPair 35 = .ok (.iastore, 1) := by decide +kernel
theorem dX0_joinPair_36 : decode cX0_joinPair 36 = .ok (.return_, 1) := by decide +kernel
set_option maxRecDepth 20000 in
theorem ggX0_partPair_X6_lesserOf : GoodIn wsX0_partPair wsX6_lesserOf := goodIn_r _ [4] (by decide +kernel) (by decide +kernel)
set_option maxRecDepth 20000 in
theorem gX0_partPair_X6_lesserOf_n50 : GoodIn wsX0_partPair (wsX6_lesserOf) := ggX0_partPair_X6_lesserOf
set_option maxRecDepth 20000 in
theorem ggX0_partPair_X6_greaterOf : GoodIn wsX0_partPair wsX6_greaterOf := goodIn_r _ [6] (by decide +kernel) (by decide +kernel)
set_option maxRecDepth 20000 in
theorem gX0_partPair_X6_greaterOf_n54 : GoodIn wsX0_partPair (wsX6_greaterOf) := ggX0_partPair_X6_greaterOf
theorem dX0_partPair_0 : decode cX0_partPair 0 = .ok (.aload_n 0, 1) := by decide +kernel
theorem dX0_partPair_1 : decode cX0_partPair 1 = .ok (.getfield 24, 3) := by decide +kernel
theorem dX0_partPair_4 : decode cX0_partPair 4 = .ok (.iload_n 1, 1) := by decide +kernel
theorem dX0_partPair_5 : decode cX0_partPair 5 = .ok (.invokestatic 50, 3) := by decide +kernel
theorem dX0_partPair_8 : decode cX0_partPair 8 = .ok (.dup2, 1) := by decide +kernel
theorem dX0_partPair_9 : decode cX0_partPair 9 = .ok (.iaload, 1) := by decide +kernel
theorem dX0_partPair_10 : decode cX0_partPair 10 = .ok (.iconst 1, 1) := by decide +kernel
theorem dX0_partPair_11 : decode cX0_partPair 11 = .ok (.iload_n 1, 1) := by decide +kernel
theorem dX0_partPair_12 : decode cX0_partPair 12 = .ok (.invokestatic 54, 3) := by decide +kernel
theorem dX0_partPair_15 : decode cX0_partPair 15 = .ok (.ishl, 1) := by decide +kernel
theorem dX0_partPair_16 : decode cX0_partPair 16 = .ok (.iconst (-1), 1) := by decide +kernel
theorem dX0_partPair_17 : decode cX0_partPair 17 = .ok (.ixor, 1) := by decide +kernel
theorem dX0_partPair_18 : decode cX0_partPair 18 = .ok (.iand, 1) := by decide +kernel
theorem dX0_partPair_19 : decode cX0_partPair 19 = .ok (.iastore, 1) := by decide +kernel
theorem dX0_partPair_20 : decode cX0_partPair 20 = .ok (.aload_n 0, 1) := by decide +kernel
theorem dX0_partPair_21 : decode cX0_partPair 21 = .ok (.getfield 24, 3) := by decide +kernel
theorem dX0_partPair_24 : decode cX0_partPair 24 = .ok (.iload_n 1, 1) := by decide +kernel
theorem dX0_partPair_25 : decode cX0_partPair 25 = .ok (.invokestatic 54, 3) := by decide +kernel
theorem dX0_partPair_28 : decode cX0_partPair 28 = .ok (.dup2, 1) := by decide +kernel
theorem dX0_partPair_29 : decode cX0_partPair 29 = .ok (.iaload, 1) := by decide +kernel
theorem dX0_partPair_30 : decode cX0_partPair 30 = .ok (.iconst 1, 1) := by decide +kernel
theorem dX0_partPair_31 : decode cX0_partPair 31 = .ok (.iload_n 1, 1) := by decide +kernel
theorem dX0_partPair_32 : decode cX0_partPair 32 = .ok (.invokestatic 50, 3) := by decide +kernel
theorem dX0_partPair_35 : decode cX0_partPair 35 = .ok (.ishl, 1) := by decide +kernel
theorem dX0_partPair_36 : decode cX0_partPair 36 = .ok (.iconst (-1), 1) := by decide +kernel
theorem dX0_partPair_37 : decode cX0_partPair 37 = .ok (.ixor, 1) := by decide +kernel
theorem dX0_partPair_38 : decode cX0_partPair 38 = .ok (.iand, 1) := by decide +kernel
theorem dX0_partPair_39 : decode cX0_partPair 39 = .ok (.iastore, 1) := by decide +kernel
theorem dX0_partPair_40 : decode cX0_partPair 40 = .ok (.return_, 1) := by decide +kernel
set_option maxRecDepth 20000 in
theorem ggX0_settle_X0_playRound : GoodIn wsX0_settle wsX0_playRound := goodIn_r _ [5, 6, 7, 8, 9, 10, 11, 12, 4, 13, 14, 15, 16, 17, 18, 19, 20, 21, 22, 23, 24, 25, 26, 27, 28, 29, 30, 31, 32, 33, 34, 35, 36, 37, 38, 39, 40, 41] (by decide +kernel) (by decide +kernel)
set_option maxRecDepth 20000 in
theorem gX0_settle_X0_playRound : GoodIn wsX0_settle (wsV RX0 57 RX0 yX0_playRound wsX0_playRound) := goodIn_app (goodIn_of _ (by decide +kernel)) ggX0_settle_X0_playRound
theorem dX0_settle_0 : decode cX0_settle 0 = .ok (.iconst 0, 1) := by decide +kernel
theorem dX0_settle_1 : decode cX0_settle 1 = .ok (.istore_n 1, 1) := by decide +kernel
theorem dX0_settle_2 : decode cX0_settle 2 = .ok (.iload_n 1, 1) := by decide +kernel
theorem dX0_settle_3 : decode cX0_settle 3 = .ok (.bipush 28, 2) := by decide +kernel
theorem dX0_settle_5 : decode cX0_settle 5 = .ok (.if_icmp .gt 17, 3) := by decide +kernel
theorem dX0_settle_8 : decode cX0_settle 8 = .ok (.aload_n 0, 1) := by decide +kernel
theorem dX0_settle_9 : decode cX0_settle 9 = .ok (.invokevirtual 57, 3) := by decide +kernel
theorem dX0_settle_12 : decode cX0_settle 12 = .ok (.ifCond .ne 4, 3) := by decide +kernel
theorem dX0_settle_15 : decode cX0_settle 15 = .ok (.return_, 1) := by decide +kernel
theorem dX0_settle_16 : decode cX0_settle 16 = .ok (.iinc 1 1, 3) := by decide +kernel
theorem dX0_settle_19 : decode cX0_settle 19 = .ok (.goto (-17), 3) := by decide +kernel
theorem dX0_settle_22 : decode cX0_settle 22 = .ok (.return_, 1) := by decide +kernel
set_option maxRecDepth 20000 in
theorem ggX0_playRound_X0_haveDanced : GoodIn wsX0_playRound wsX0_haveDanced := goodIn_r _ [9, 3, 10, 11, 12, 31, 32, 33, 34, 35, 36, 37] (by decide +kernel) (by decide +kernel)
set_option maxRecDepth 20000 in
theorem gX0_playRound_X0_haveDanced : GoodIn wsX0_playRound (wsV RX0 61 RX0 yX0_haveDanced wsX0_haveDanced) := goodIn_app (goodIn_of _ (by decide +kernel)) ggX0_playRound_X0_haveDanced
set_option maxRecDepth 20000 in
theorem ggX0_playRound_X0_canCome : GoodIn wsX0_playRound wsX0_canCome := goodIn_r _ [16, 17, 3, 18, 19, 20, 21, 22, 23, 10, 11, 12, 24, 25, 26, 27, 28, 29, 30, 31, 32, 33, 34, 35, 36, 37] (by decide +kernel) (by decide +kernel)
set_option maxRecDepth 20000 in
theorem gX0_playRound_X0_canCome : GoodIn wsX0_playRound (wsV RX0 64 RX0 yX0_canCome wsX0_canCome) := goodIn_app (goodIn_of _ (by decide +kernel)) ggX0_playRound_X0_canCome
theorem dX0_playRound_0 : decode cX0_playRound 0 = .ok (.iconst 0, 1) := by decide +kernel
theorem dX0_playRound_1 : decode cX0_playRound 1 = .ok (.istore_n 1, 1) := by decide +kernel
theorem dX0_playRound_2 : decode cX0_playRound 2 = .ok (.iload_n 1, 1) := by decide +kernel
theorem dX0_playRound_3 : decode cX0_playRound 3 = .ok (.aload_n 0, 1) := by decide +kernel
theorem dX0_playRound_4 : decode cX0_playRound 4 = .ok (.getfield 9, 3) := by decide +kernel
theorem dX0_playRound_7 : decode cX0_playRound 7 = .ok (.if_icmp .ge 21, 3) := by decide +kernel
theorem dX0_playRound_10 : decode cX0_playRound 10 = .ok (.aload_n 0, 1) := by decide +kernel
theorem dX0_playRound_11 : decode cX0_playRound 11 = .ok (.getfield 28, 3) := by decide +kernel
theorem dX0_playRound_14 : decode cX0_playRound 14 = .ok (.iload_n 1, 1) := by decide +kernel
theorem dX0_playRound_15 : decode cX0_playRound 15 = .ok (.aload_n 0, 1) := by decide +kernel
theorem dX0_playRound_16 : decode cX0_playRound 16 = .ok (.getfield 24, 3) := by decide +kernel
theorem dX0_playRound_19 : decode cX0_playRound 19 = .ok (.iload_n 1, 1) := by decide +kernel
theorem dX0_playRound_20 : decode cX0_playRound 20 = .ok (.iaload, 1) := by decide +kernel
theorem dX0_playRound_21 : decode cX0_playRound 21 = .ok (.iastore, 1) := by decide +kernel
theorem dX0_playRound_22 : decode cX0_playRound 22 = .ok (.iinc 1 1, 3) := by decide +kernel
theorem dX0_playRound_25 : decode cX0_playRound 25 = .ok (.goto (-23), 3) := by decide +kernel
theorem dX0_playRound_28 : decode cX0_playRound 28 = .ok (.iconst 0, 1) := by decide +kernel
theorem dX0_playRound_29 : decode cX0_playRound 29 = .ok (.istore_n 1, 1) := by decide +kernel
theorem dX0_playRound_30 : decode cX0_playRound 30 = .ok (.iconst 0, 1) := by decide +kernel
theorem dX0_playRound_31 : decode cX0_playRound 31 = .ok (.istore_n 2, 1) := by decide +kernel
theorem dX0_playRound_32 : decode cX0_playRound 32 = .ok (.iload_n 2, 1) := by decide +kernel
theorem dX0_playRound_33 : decode cX0_playRound 33 = .ok (.aload_n 0, 1) := by decide +kernel
theorem dX0_playRound_34 : decode cX0_playRound 34 = .ok (.getfield 9, 3) := by decide +kernel
theorem dX0_playRound_37 : decode cX0_playRound 37 = .ok (.if_icmp .ge 71, 3) := by decide +kernel
theorem dX0_playRound_40 : decode cX0_playRound 40 = .ok (.iload_n 2, 1) := by decide +kernel
theorem dX0_playRound_41 : decode cX0_playRound 41 = .ok (.iconst 1, 1) := by decide +kernel
theorem dX0_playRound_42 : decode cX0_playRound 42 = .ok (.iadd, 1) := by decide +kernel
theorem dX0_playRound_43 : decode cX0_playRound 43 = .ok (.istore_n 3, 1) := by decide +kernel
theorem dX0_playRound_44 : decode cX0_playRound 44 = .ok (.iload_n 3, 1) := by decide +kernel
theorem dX0_playRound_45 : decode cX0_playRound 45 = .ok (.aload_n 0, 1) := by decide +kernel
theorem dX0_playRound_46 : decode cX0_playRound 46 = .ok (.getfield 9, 3) := by decide +kernel
theorem dX0_playRound_49 : decode cX0_playRound 49 = .ok (.if_icmp .ge 53, 3) := by decide +kernel
theorem dX0_playRound_52 : decode cX0_playRound 52 = .ok (.aload_n 0, 1) := by decide +kernel
theorem dX0_playRound_53 : decode cX0_playRound 53 = .ok (.iload_n 2, 1) := by decide +kernel
theorem dX0_playRound_54 : decode cX0_playRound 54 = .ok (.iload_n 3, 1) := by decide +kernel
theorem dX0_playRound_55 : decode cX0_playRound 55 = .ok (.invokevirtual 61, 3) := by decide +kernel
theorem dX0_playRound_58 : decode cX0_playRound 58 = .ok (.ifCond .ne 38, 3) := by decide +kernel
theorem dX0_playRound_61 : decode cX0_playRound 61 = .ok (.aload_n 0, 1) := by decide +kernel
theorem dX0_playRound_62 : decode cX0_playRound 62 = .ok (.iload_n 2, 1) := by decide +kernel
theorem dX0_playRound_63 : decode cX0_playRound 63 = .ok (.iload_n 3, 1) := by decide +kernel
theorem dX0_playRound_64 : decode cX0_playRound 64 = .ok (.invokevirtual 64, 3) := by decide +kernel
theorem dX0_playRound_67 : decode cX0_playRound 67 = .ok (.ifCond .eq 29, 3) := by decide +kernel
theorem dX0_playRound_70 : decode cX0_playRound 70 = .ok (.aload_n 0, 1) := by decide +kernel
theorem dX0_playRound_71 : decode cX0_playRound 71 = .ok (.getfield 28, 3) := by decide +kernel
theorem dX0_playRound_74 : decode cX0_playRound 74 = .ok (.iload_n 2, 1) := by decide +kernel
theorem dX0_playRound_75 : decode cX0_playRound 75 = .ok (.dup2, 1) := by decide +kernel
theorem dX0_playRound_76 : decode cX0_playRound 76 = .ok (.iaload, 1) := by decide +kernel
theorem dX0_playRound_77 : decode cX0_playRound 77 = .ok (.iconst 1, 1) := by decide +kernel
theorem dX0_playRound_78 : decode cX0_playRound 78 = .ok (.iload_n 3, 1) := by decide +kernel
theorem dX0_playRound_79 : decode cX0_playRound 79 = .ok (.ishl, 1) := by decide +kernel
theorem dX0_playRound_80 : decode cX0_playRound 80 = .ok (.ior, 1) := by decide +kernel
theorem dX0_playRound_81 : decode cX0_playRound 81 = .ok (.iastore, 1) := by decide +kernel
theorem dX0_playRound_82 : decode cX0_playRound 82 = .ok (.aload_n 0, 1) := by decide +kernel
theorem dX0_playRound_83 : decode cX0_playRound 83 = .ok (.getfield 28, 3) := by decide +kernel
theorem dX0_playRound_86 : decode cX0_playRound 86 = .ok (.iload_n 3, 1) := by decide +kernel
theorem dX0_playRound_87 : decode cX0_playRound 87 = .ok (.dup2, 1) := by decide +kernel
theorem dX0_playRound_88 : decode cX0_playRound 88 = .ok (.iaload, 1) := by decide +kernel
theorem dX0_playRound_89 : decode cX0_playRound 89 = .ok (.iconst 1, 1) := by decide +kernel
theorem dX0_playRound_90 : decode cX0_playRound 90 = .ok (.iload_n 2, 1) := by decide +kernel
theorem dX0_playRound_91 : decode cX0_playRound 91 = .ok (.ishl, 1) := by decide +kernel
theorem dX0_playRound_92 : decode cX0_playRound 92 = .ok (.ior, 1) := by decide +kernel
theorem dX0_playRound_93 : decode cX0_playRound 93 = .ok (.iastore, 1) := by decide +kernel
theorem dX0_playRound_94 : decode cX0_playRound 94 = .ok (.iconst 1, 1) := by decide +kernel
theorem dX0_playRound_95 : decode cX0_playRound 95 = .ok (.istore_n 1, 1) := by decide +kernel
theorem dX0_playRound_96 : decode cX0_playRound 96 = .ok (.iinc 3 1, 3) := by decide +kernel
theorem dX0_playRound_99 : decode cX0_playRound 99 = .ok (.goto (-55), 3) := by decide +kernel
theorem dX0_playRound_102 : decode cX0_playRound 102 = .ok (.iinc 2 1, 3) := by decide +kernel
theorem dX0_playRound_105 : decode cX0_playRound 105 = .ok (.goto (-73), 3) := by decide +kernel
theorem dX0_playRound_108 : decode cX0_playRound 108 = .ok (.iconst 0, 1) := by decide +kernel
theorem dX0_playRound_109 : decode cX0_playRound 109 = .ok (.istore_n 2, 1) := by decide +kernel
theorem dX0_playRound_110 : decode cX0_playRound 110 = .ok (.iload_n 2, 1) := by decide +kernel
theorem dX0_playRound_111 : decode cX0_playRound 111 = .ok (.aload_n 0, 1) := by decide +kernel
theorem dX0_playRound_112 : decode cX0_playRound 112 = .ok (.getfield 9, 3) := by decide +kernel
theorem dX0_playRound_115 : decode cX0_playRound 115 = .ok (.if_icmp .ge 21, 3) := by decide +kernel
theorem dX0_playRound_118 : decode cX0_playRound 118 = .ok (.aload_n 0, 1) := by decide +kernel
theorem dX0_playRound_119 : decode cX0_playRound 119 = .ok (.getfield 24, 3) := by decide +kernel
theorem dX0_playRound_122 : decode cX0_playRound 122 = .ok (.iload_n 2, 1) := by decide +kernel
theorem dX0_playRound_123 : decode cX0_playRound 123 = .ok (.aload_n 0, 1) := by decide +kernel
theorem dX0_playRound_124 : decode cX0_playRound 124 = .ok (.getfield 28, 3) := by decide +kernel
theorem dX0_playRound_127 : decode cX0_playRound 127 = .ok (.iload_n 2, 1) := by decide +kernel
theorem dX0_playRound_128 : decode cX0_playRound 128 = .ok (.iaload, 1) := by decide +kernel
theorem dX0_playRound_129 : decode cX0_playRound 129 = .ok (.iastore, 1) := by decide +kernel
theorem dX0_playRound_130 : decode cX0_playRound 130 = .ok (.iinc 2 1, 3) := by decide +kernel
theorem dX0_playRound_133 : decode cX0_playRound 133 = .ok (.goto (-23), 3) := by decide +kernel
theorem dX0_playRound_136 : decode cX0_playRound 136 = .ok (.iload_n 1, 1) := by decide +kernel
theorem dX0_playRound_137 : decode cX0_playRound 137 = .ok (.ifCond .eq 13, 3) := by decide +kernel
theorem dX0_playRound_140 : decode cX0_playRound 140 = .ok (.aload_n 0, 1) := by decide +kernel
theorem dX0_playRound_141 : decode cX0_playRound 141 = .ok (.dup, 1) := by decide +kernel
theorem dX0_playRound_142 : decode cX0_playRound 142 = .ok (.getfield 21, 3) := by decide +kernel
theorem dX0_playRound_145 : decode cX0_playRound 145 = .ok (.iconst 1, 1) := by decide +kernel
theorem dX0_playRound_146 : decode cX0_playRound 146 = .ok (.iadd, 1) := by decide +kernel
theorem dX0_playRound_147 : decode cX0_playRound 147 = .ok (.putfield 21, 3) := by decide +kernel
theorem dX0_playRound_150 : decode cX0_playRound 150 = .ok (.iload_n 1, 1) := by decide +kernel
theorem dX0_playRound_151 : decode cX0_playRound 151 = .ok (.ireturn, 1) := by decide +kernel
set_option maxRecDepth 20000 in
theorem ggX0_canCome_X6_hasBit : GoodIn wsX0_canCome wsX6_hasBit := goodIn_r _ [11] (by decide +kernel) (by decide +kernel)
set_option maxRecDepth 20000 in
theorem gX0_canCome_X6_hasBit_n47 : GoodIn wsX0_canCome (wsX6_hasBit) := ggX0_canCome_X6_hasBit
set_option maxRecDepth 20000 in
theorem ggX0_canCome_J6_bitCount_0f7a4 : GoodIn wsX0_canCome wsJ6_bitCount_0f7a4 := goodIn_r _ [15, 16, 17, 18] (by decide +kernel) (by decide +kernel)
set_option maxRecDepth 20000 in
theorem gX0_canCome_J6_bitCount_0f7a4 : GoodIn wsX0_canCome (va_wsS RX0 67 yJ6_bitCount_0f7a4 wsJ6_bitCount_0f7a4) := goodIn_app (goodIn_of _ (by decide +kernel)) ggX0_canCome_J6_bitCount_0f7a4
theorem dX0_canCome_0 : decode cX0_canCome 0 = .ok (.aload_n 0, 1) := by decide +kernel
theorem dX0_canCome_1 : decode cX0_canCome 1 = .ok (.getfield 31, 3) := by decide +kernel
theorem dX0_canCome_4 : decode cX0_canCome 4 = .ok (.iload_n 1, 1) := by decide +kernel
theorem dX0_canCome_5 : decode cX0_canCome 5 = .ok (.iaload, 1) := by decide +kernel
theorem dX0_canCome_6 : decode cX0_canCome 6 = .ok (.iload_n 2, 1) := by decide +kernel
theorem dX0_canCome_7 : decode cX0_canCome 7 = .ok (.invokestatic 47, 3) := by decide +kernel
theorem dX0_canCome_10 : decode cX0_canCome 10 = .ok (.ifCond .eq 5, 3) := by decide +kernel
theorem dX0_canCome_13 : decode cX0_canCome 13 = .ok (.iconst 1, 1) := by decide +kernel
theorem dX0_canCome_14 : decode cX0_canCome 14 = .ok (.ireturn, 1) := by decide +kernel
theorem dX0_canCome_15 : decode cX0_canCome 15 = .ok (.aload_n 0, 1) := by decide +kernel
theorem dX0_canCome_16 : decode cX0_canCome 16 = .ok (.getfield 24, 3) := by decide +kernel
theorem dX0_canCome_19 : decode cX0_canCome 19 = .ok (.iload_n 1, 1) := by decide +kernel
theorem dX0_canCome_20 : decode cX0_canCome 20 = .ok (.iaload, 1) := by decide +kernel
theorem dX0_canCome_21 : decode cX0_canCome 21 = .ok (.aload_n 0, 1) := by decide +kernel
theorem dX0_canCome_22 : decode cX0_canCome 22 = .ok (.getfield 24, 3) := by decide +kernel
theorem dX0_canCome_25 : decode cX0_canCome 25 = .ok (.iload_n 2, 1) := by decide +kernel
theorem dX0_canCome_26 : decode cX0_canCome 26 = .ok (.iaload, 1) := by decide +kernel
theorem dX0_canCome_27 : decode cX0_canCome 27 = .ok (.iand, 1) := by decide +kernel
theorem dX0_canCome_28 : decode cX0_canCome 28 = .ok (.aload_n 0, 1) := by decide +kernel
theorem dX0_canCome_29 : decode cX0_canCome 29 = .ok (.getfield 18, 3) := by decide +kernel
theorem dX0_canCome_32 : decode cX0_canCome 32 = .ok (.iand, 1) := by decide +kernel
theorem dX0_canCome_33 : decode cX0_canCome 33 = .ok (.istore_n 3, 1) := by decide +kernel
theorem dX0_canCome_34 : decode cX0_canCome 34 = .ok (.aload_n 0, 1) := by decide +kernel
theorem dX0_canCome_35 : decode cX0_canCome 35 = .ok (.getfield 15, 3) := by decide +kernel
theorem dX0_canCome_38 : decode cX0_canCome 38 = .ok (.lookupswitch 60 #[(1, 26), (2, 40)], 26) := by decide +kernel
theorem dX0_canCome_64 : decode cX0_canCome 64 = .ok (.iload_n 3, 1) := by decide +kernel
theorem dX0_canCome_65 : decode cX0_canCome 65 = .ok (.invokestatic 67, 3) := by decide +kernel
theorem dX0_canCome_68 : decode cX0_canCome 68 = .ok (.iconst 2, 1) := by decide +kernel
theorem dX0_canCome_69 : decode cX0_canCome 69 = .ok (.if_icmp .lt 7, 3) := by decide +kernel
theorem dX0_canCome_72 : decode cX0_canCome 72 = .ok (.iconst 1, 1) := by decide +kernel
theorem dX0_canCome_73 : decode cX0_canCome 73 = .ok (.goto 4, 3) := by decide +kernel
theorem dX0_canCome_76 : decode cX0_canCome 76 = .ok (.iconst 0, 1) := by decide +kernel
theorem dX0_canCome_77 : decode cX0_canCome 77 = .ok (.ireturn, 1) := by decide +kernel
theorem dX0_canCome_78 : decode cX0_canCome 78 = .ok (.iload_n 3, 1) := by decide +kernel
theorem dX0_canCome_79 : decode cX0_canCome 79 = .ok (.iconst 1, 1) := by decide +kernel
theorem dX0_canCome_80 : decode cX0_canCome 80 = .ok (.iload_n 1, 1) := by decide +kernel
theorem dX0_canCome_81 : decode cX0_canCome 81 = .ok (.iload_n 2, 1) := by decide +kernel
theorem dX0_canCome_82 : decode cX0_canCome 82 = .ok (.invokestatic 72, 3) := by decide +kernel
theorem dX0_canCome_85 : decode cX0_canCome 85 = .ok (.ishl, 1) := by decide +kernel
theorem dX0_canCome_86 : decode cX0_canCome 86 = .ok (.iconst 1, 1) := by decide +kernel
theorem dX0_canCome_87 : decode cX0_canCome 87 = .ok (.isub, 1) := by decide +kernel
theorem dX0_canCome_88 : decode cX0_canCome 88 = .ok (.iand, 1) := by decide +kernel
theorem dX0_canCome_89 : decode cX0_canCome 89 = .ok (.ifCond .eq 7, 3) := by decide +kernel
theorem dX0_canCome_92 : decode cX0_canCome 92 = .ok (.iconst 1, 1) := by decide +kernel
theorem dX0_canCome_93 : decode cX0_canCome 93 = .ok (.goto 4, 3) := by decide +kernel
theorem dX0_canCome_96 : decode cX0_canCome 96 = .ok (.iconst 0, 1) := by decide +kernel
theorem dX0_canCome_97 : decode cX0_canCome 97 = .ok (.ireturn, 1) := by decide +kernel
theorem dX0_canCome_98 : decode cX0_canCome 98 = .ok (.iload_n 3, 1) := by decide +kernel
theorem dX0_canCome_99 : decode cX0_canCome 99 = .ok (.ifCond .eq 7, 3) := by decide +kernel
theorem dX0_canCome_102 : decode cX0_canCome 102 = .ok (.iconst 1, 1) := by decide +kernel
theorem dX0_canCome_103 : decode cX0_canCome 103 = .ok (.goto 4, 3) := by decide +kernel
theorem dX0_canCome_106 : decode cX0_canCome 106 = .ok (.iconst 0, 1) := by decide +kernel
theorem dX0_canCome_107 : decode cX0_canCome 107 = .ok (.ireturn, 1) := by decide +kernel
set_option maxRecDepth 20000 in
theorem ggX0_pairs_J6_bitCount_0f7a4 : GoodIn wsX0_pairs wsJ6_bitCount_0f7a4 := goodIn_r _ [6, 7, 8, 9] (by decide +kernel) (by decide +kernel)
set_option maxRecDepth 20000 in
theorem gX0_pairs_J6_bitCount_0f7a4 : GoodIn wsX0_pairs (va_wsS RX0 67 yJ6_bitCount_0f7a4 wsJ6_bitCount_0f7a4) := goodIn_app (goodIn_of _ (by decide +kernel)) ggX0_pairs_J6_bitCount_0f7a4
theorem dX0_pairs_0 : decode cX0_pairs 0 = .ok (.iconst 0, 1) := by decide +kernel
theorem dX0_pairs_1 : decode cX0_pairs 1 = .ok (.istore_n 1, 1) := by decide +kernel
theorem dX0_pairs_2 : decode cX0_pairs 2 = .ok (.iconst 0, 1) := by decide +kernel
theorem dX0_pairs_3 : decode cX0_pairs 3 = .ok (.istore_n 2, 1) := by decide +kernel
theorem dX0_pairs_4 : decode cX0_pairs 4 = .ok (.iload_n 2, 1) := by decide +kernel
theorem dX0_pairs_5 : decode cX0_pairs 5 = .ok (.aload_n 0, 1) := by decide +kernel
theorem dX0_pairs_6 : decode cX0_pairs 6 = .ok (.getfield 9, 3) := by decide +kernel
theorem dX0_pairs_9 : decode cX0_pairs 9 = .ok (.if_icmp .ge 21, 3) := by decide +kernel
theorem dX0_pairs_12 : decode cX0_pairs 12 = .ok (.iload_n 1, 1) := by decide +kernel
theorem dX0_pairs_13 : decode cX0_pairs 13 = .ok (.aload_n 0, 1) := by decide +kernel
theorem dX0_pairs_14 : decode cX0_pairs 14 = .ok (.getfield 24, 3) := by decide +kernel
theorem dX0_pairs_17 : decode cX0_pairs 17 = .ok (.iload_n 2, 1) := by decide +kernel
theorem dX0_pairs_18 : decode cX0_pairs 18 = .ok (.iaload, 1) := by decide +kernel
theorem dX0_pairs_19 : decode cX0_pairs 19 = .ok (.invokestatic 67, 3) := by decide +kernel
theorem dX0_pairs_22 : decode cX0_pairs 22 = .ok (.iadd, 1) := by decide +kernel
theorem dX0_pairs_23 : decode cX0_pairs 23 = .ok (.istore_n 1, 1) := by decide +kernel
theorem dX0_pairs_24 : decode cX0_pairs 24 = .ok (.iinc 2 1, 3) := by decide +kernel
theorem dX0_pairs_27 : decode cX0_pairs 27 = .ok (.goto (-23), 3) := by decide +kernel
theorem dX0_pairs_30 : decode cX0_pairs 30 = .ok (.iload_n 1, 1) := by decide +kernel
theorem dX0_pairs_31 : decode cX0_pairs 31 = .ok (.iconst 2, 1) := by decide +kernel
theorem dX0_pairs_32 : decode cX0_pairs 32 = .ok (.idiv, 1) := by decide +kernel
theorem dX0_pairs_33 : decode cX0_pairs 33 = .ok (.ireturn, 1) := by decide +kernel
set_option maxRecDepth 20000 in
theorem ggX0_isFull_X0_pairs : GoodIn wsX0_isFull wsX0_pairs := goodIn_r _ [6, 1, 7, 8, 9, 10, 11, 12, 13, 14, 15, 16, 17, 18, 19, 20, 21] (by decide +kernel) (by decide +kernel)
set_option maxRecDepth 20000 in
theorem gX0_isFull_X0_pairs : GoodIn wsX0_isFull (wsV RX0 78 RX0 yX0_pairs wsX0_pairs) := goodIn_app (goodIn_of _ (by decide +kernel)) ggX0_isFull_X0_pairs
theorem dX0_isFull_0 : decode cX0_isFull 0 = .ok (.aload_n 0, 1) := by decide +kernel
theorem dX0_isFull_1 : decode cX0_isFull 1 = .ok (.invokevirtual 78, 3) := by decide +kernel
theorem dX0_isFull_4 : decode cX0_isFull 4 = .ok (.aload_n 0, 1) := by decide +kernel
theorem dX0_isFull_5 : decode cX0_isFull 5 = .ok (.getfield 9, 3) := by decide +kernel
theorem dX0_isFull_8 : decode cX0_isFull 8 = .ok (.aload_n 0, 1) := by decide +kernel
theorem dX0_isFull_9 : decode cX0_isFull 9 = .ok (.getfield 9, 3) := by decide +kernel
theorem dX0_isFull_12 : decode cX0_isFull 12 = .ok (.iconst 1, 1) := by decide +kernel
theorem dX0_isFull_13 : decode cX0_isFull 13 = .ok (.isub, 1) := by decide +kernel
theorem dX0_isFull_14 : decode cX0_isFull 14 = .ok (.imul, 1) := by decide +kernel
theorem dX0_isFull_15 : decode cX0_isFull 15 = .ok (.iconst 2, 1) := by decide +kernel
theorem dX0_isFull_16 : decode cX0_isFull 16 = .ok (.idiv, 1) := by decide +kernel
theorem dX0_isFull_17 : decode cX0_isFull 17 = .ok (.if_icmp .ne 7, 3) := by decide +kernel
theorem dX0_isFull_20 : decode cX0_isFull 20 = .ok (.iconst 1, 1) := by decide +kernel
theorem dX0_isFull_21 : decode cX0_isFull 21 = .ok (.goto 4, 3) := by decide +kernel
theorem dX0_isFull_24 : decode cX0_isFull 24 = .ok (.iconst 0, 1) := by decide +kernel
theorem dX0_isFull_25 : decode cX0_isFull 25 = .ok (.ireturn, 1) := by decide +kernel
set_option maxRecDepth 20000 in
theorem ggX1_init_X2_init : GoodIn wsX1_init wsX2_init := goodIn_r _ [13, 14, 2, 3, 15, 16, 5, 17, 18, 19, 20, 24, 25, 26, 27, 28, 29] (by decide +kernel) (by decide +kernel)
set_option maxRecDepth 20000 in
theorem gX1_init_X2_init : GoodIn wsX1_init (wsX2_init) := ggX1_init_X2_init
theorem dX1_init_0 : decode cX1_init 0 = .ok (.aload_n 0, 1) := by decide +kernel
theorem dX1_init_1 : decode cX1_init 1 = .ok (.invokespecial 3, 3) := by decide +kernel
theorem dX1_init_4 : decode cX1_init 4 = .ok (.aload_n 0, 1) := by decide +kernel
theorem dX1_init_5 : decode cX1_init 5 = .ok (.iconst 0, 1) := by decide +kernel
theorem dX1_init_6 : decode cX1_init 6 = .ok (.putfield 9, 3) := by decide +kernel
theorem dX1_init_9 : decode cX1_init 9 = .ok (.aload_n 0, 1) := by decide +kernel
theorem dX1_init_10 : decode cX1_init 10 = .ok (.bipush 6, 2) := by decide +kernel
theorem dX1_init_12 : decode cX1_init 12 = .ok (.newarray .int, 2) := by decide +kernel
theorem dX1_init_14 : decode cX1_init 14 = .ok (.putfield 15, 3) := by decide +kernel
theorem dX1_init_17 : decode cX1_init 17 = .ok (.aload_n 0, 1) := by decide +kernel
theorem dX1_init_18 : decode cX1_init 18 = .ok (.bipush 7, 2) := by decide +kernel
theorem dX1_init_20 : decode cX1_init 20 = .ok (.anewarray 19, 3) := by decide +kernel
theorem dX1_init_23 : decode cX1_init 23 = .ok (.putfield 21, 3) := by decide +kernel
theorem dX1_init_26 : decode cX1_init 26 = .ok (.iconst 0, 1) := by decide +kernel
theorem dX1_init_27 : decode cX1_init 27 = .ok (.istore_n 1, 1) := by decide +kernel
theorem dX1_init_28 : decode cX1_init 28 = .ok (.iload_n 1, 1) := by decide +kernel
theorem dX1_init_29 : decode cX1_init 29 = .ok (.bipush 6, 2) := by decide +kernel
theorem dX1_init_31 : decode cX1_init 31 = .ok (.if_icmp .gt 22, 3) := by decide +kernel
theorem dX1_init_34 : decode cX1_init 34 = .ok (.aload_n 0, 1) := by decide +kernel
theorem dX1_init_35 : decode cX1_init 35 = .ok (.getfield 21, 3) := by decide +kernel
theorem dX1_init_38 : decode cX1_init 38 = .ok (.iload_n 1, 1) := by decide +kernel
theorem dX1_init_39 : decode cX1_init 39 = .ok (.new 19, 3) := by decide +kernel
theorem dX1_init_42 : decode cX1_init 42 = .ok (.dup, 1) := by decide +kernel
theorem dX1_init_43 : decode cX1_init 43 = .ok (.invokespecial 25, 3) := by decide +kernel
theorem dX1_init_46 : decode cX1_init 46 = .ok (.aastore, 1) := by decide +kernel
theorem dX1_init_47 : decode cX1_init 47 = .ok (.iinc 1 1, 3) := by decide +kernel
theorem dX1_init_50 : decode cX1_init 50 = .ok (.goto (-22), 3) := by decide +kernel
theorem dX1_init_53 : decode cX1_init 53 = .ok (.return_, 1) := by decide +kernel
theorem dX1_append_0 : decode cX1_append 0 = .ok (.aload_n 0, 1) := by decide +kernel
theorem dX1_append_1 : decode cX1_append 1 = .ok (.getfield 9, 3) := by decide +kernel
theorem dX1_append_4 : decode cX1_append 4 = .ok (.bipush 6, 2) := by decide +kernel
theorem dX1_append_6 : decode cX1_append 6 = .ok (.if_icmp .ge 23, 3) := by decide +kernel
theorem dX1_append_9 : decode cX1_append 9 = .ok (.aload_n 0, 1) := by decide +kernel
theorem dX1_append_10 : decode cX1_append 10 = .ok (.getfield 15, 3) := by decide +kernel
theorem dX1_append_13 : decode cX1_append 13 = .ok (.aload_n 0, 1) := by decide +kernel
theorem dX1_append_14 : decode cX1_append 14 = .ok (.getfield 9, 3) := by decide +kernel
theorem dX1_append_17 : decode cX1_append 17 = .ok (.iload_n 1, 1) := by decide +kernel
theorem dX1_append_18 : decode cX1_append 18 = .ok (.iastore, 1) := by decide +kernel
theorem dX1_append_19 : decode cX1_append 19 = .ok (.aload_n 0, 1) := by decide +kernel
theorem dX1_append_20 : decode cX1_append 20 = .ok (.dup, 1) := by decide +kernel
theorem dX1_append_21 : decode cX1_append 21 = .ok (.getfield 9, 3) := by decide +kernel
theorem dX1_append_24 : decode cX1_append 24 = .ok (.iconst 1, 1) := by decide +kernel
theorem dX1_append_25 : decode cX1_append 25 = .ok (.iadd, 1) := by decide +kernel
theorem dX1_append_26 : decode cX1_append 26 = .ok (.putfield 9, 3) := by decide +kernel
theorem dX1_append_29 : decode cX1_append 29 = .ok (.aload_n 0, 1) := by decide +kernel
theorem dX1_append_30 : decode cX1_append 30 = .ok (.getfield 9, 3) := by decide +kernel
theorem dX1_append_33 : decode cX1_append 33 = .ok (.ireturn, 1) := by decide +kernel
theorem dX1_empty_0 : decode cX1_empty 0 = .ok (.aload_n 0, 1) := by decide +kernel
theorem dX1_empty_1 : decode cX1_empty 1 = .ok (.getfield 9, 3) := by decide +kernel
theorem dX1_empty_4 : decode cX1_empty 4 = .ok (.istore_n 1, 1) := by decide +kernel
theorem dX1_empty_5 : decode cX1_empty 5 = .ok (.aload_n 0, 1) := by decide +kernel
theorem dX1_empty_6 : decode cX1_empty 6 = .ok (.iconst 0, 1) := by decide +kernel
theorem dX1_empty_7 : decode cX1_empty 7 = .ok (.putfield 9, 3) := by decide +kernel
theorem dX1_empty_10 : decode cX1_empty 10 = .ok (.iload_n 1, 1) := by decide +kernel
theorem dX1_empty_11 : decode cX1_empty 11 = .ok (.ireturn, 1) := by decide +kernel
set_option maxRecDepth 20000 in
theorem ggX1_firstWrong_X2_copyFrom : GoodIn wsX1_firstWrong wsX2_copyFrom := goodIn_r _ [8, 9, 10, 11, 12, 13, 14, 78, 79, 80, 81, 82, 83] (by decide +kernel) (by decide +kernel)
set_option maxRecDepth 20000 in
theorem gX1_firstWrong_X2_copyFrom : GoodIn wsX1_firstWrong (wsV RX1 26 RX2 yX2_copyFrom wsX2_copyFrom) := goodIn_app (goodIn_of _ (by decide +kernel)) ggX1_firstWrong_X2_copyFrom
set_option maxRecDepth 20000 in
theorem ggX1_firstWrong_X2_stepByLeast : GoodIn wsX1_firstWrong wsX2_stepByLeast := goodIn_r _ [18, 19, 20, 21, 7, 22, 23, 24, 25, 26, 9, 27, 28, 29, 30, 10, 31, 32, 33, 34, 14, 35, 36, 37, 38, 39, 40, 41, 42, 43, 44, 45, 46, 47, 48, 49, 13, 12, 11, 50, 51, 52, 53, 54, 55, 56, 57, 58, 59, 60, 61, 62, 63, 64, 65, 66, 67, 68, 69, 70, 71, 72, 73, 74, 78, 79, 80, 81, 82, 83] (by decide +kernel) (by decide +kernel)
set_option maxRecDepth 20000 in
theorem gX1_firstWrong_X2_stepByLeast : GoodIn wsX1_firstWrong (wsV RX1 30 RX2 yX2_stepByLeast wsX2_stepByLeast) := goodIn_app (goodIn_of _ (by decide +kernel)) ggX1_firstWrong_X2_stepByLeast
theorem dX1_firstWrong_0 : decode cX1_firstWrong 0 = .ok (.aload_n 0, 1) := by decide +kernel
theorem dX1_firstWrong_1 : decode cX1_firstWrong 1 = .ok (.getfield 21, 3) := by decide +kernel
theorem dX1_firstWrong_4 : decode cX1_firstWrong 4 = .ok (.iconst 0, 1) := by decide +kernel
theorem dX1_firstWrong_5 : decode cX1_firstWrong 5 = .ok (.aaload, 1) := by decide +kernel
theorem dX1_firstWrong_6 : decode cX1_firstWrong 6 = .ok (.astore_n 2, 1) := by decide +kernel
theorem dX1_firstWrong_7 : decode cX1_firstWrong 7 = .ok (.aload_n 2, 1) := by decide +kernel
theorem dX1_firstWrong_8 : decode cX1_firstWrong 8 = .ok (.aload_n 1, 1) := by decide +kernel
theorem dX1_firstWrong_9 : decode cX1_firstWrong 9 = .ok (.invokevirtual 26, 3) := by decide +kernel
theorem dX1_firstWrong_12 : decode cX1_firstWrong 12 = .ok (.iconst 0, 1) := by decide +kernel
theorem dX1_firstWrong_13 : decode cX1_firstWrong 13 = .ok (.istore_n 3, 1) := by decide +kernel
theorem dX1_firstWrong_14 : decode cX1_firstWrong 14 = .ok (.iload_n 3, 1) := by decide +kernel
theorem dX1_firstWrong_15 : decode cX1_firstWrong 15 = .ok (.aload_n 0, 1) := by decide +kernel
theorem dX1_firstWrong_16 : decode cX1_firstWrong 16 = .ok (.getfield 9, 3) := by decide +kernel
theorem dX1_firstWrong_19 : decode cX1_firstWrong 19 = .ok (.if_icmp .ge 36, 3) := by decide +kernel
theorem dX1_firstWrong_22 : decode cX1_firstWrong 22 = .ok (.aload_n 2, 1) := by decide +kernel
theorem dX1_firstWrong_23 : decode cX1_firstWrong 23 = .ok (.aload_n 0, 1) := by decide +kernel
theorem dX1_firstWrong_24 : decode cX1_firstWrong 24 = .ok (.getfield 15, 3) := by decide +kernel
theorem dX1_firstWrong_27 : decode cX1_firstWrong 27 = .ok (.iload_n 3, 1) := by decide +kernel
theorem dX1_firstWrong_28 : decode cX1_firstWrong 28 = .ok (.iaload, 1) := by decide +kernel
theorem dX1_firstWrong_29 : decode cX1_firstWrong 29 = .ok (.bipush 10, 2) := by decide +kernel
theorem dX1_firstWrong_31 : decode cX1_firstWrong 31 = .ok (.idiv, 1) := by decide +kernel
theorem dX1_firstWrong_32 : decode cX1_firstWrong 32 = .ok (.aload_n 0, 1) := by decide +kernel
theorem dX1_firstWrong_33 : decode cX1_firstWrong 33 = .ok (.getfield 15, 3) := by decide +kernel
theorem dX1_firstWrong_36 : decode cX1_firstWrong 36 = .ok (.iload_n 3, 1) := by decide +kernel
theorem dX1_firstWrong_37 : decode cX1_firstWrong 37 = .ok (.iaload, 1) := by decide +kernel
theorem dX1_firstWrong_38 : decode cX1_firstWrong 38 = .ok (.bipush 10, 2) := by decide +kernel
theorem dX1_firstWrong_40 : decode cX1_firstWrong 40 = .ok (.irem, 1) := by decide +kernel
theorem dX1_firstWrong_41 : decode cX1_firstWrong 41 = .ok (.invokevirtual 30, 3) := by decide +kernel
theorem dX1_firstWrong_44 : decode cX1_firstWrong 44 = .ok (.ifCond .ne 5, 3) := by decide +kernel
theorem dX1_firstWrong_47 : decode cX1_firstWrong 47 = .ok (.iload_n 3, 1) := by decide +kernel
theorem dX1_firstWrong_48 : decode cX1_firstWrong 48 = .ok (.ireturn, 1) := by decide +kernel
theorem dX1_firstWrong_49 : decode cX1_firstWrong 49 = .ok (.iinc 3 1, 3) := by decide +kernel
theorem dX1_firstWrong_52 : decode cX1_firstWrong 52 = .ok (.goto (-38), 3) := by decide +kernel
theorem dX1_firstWrong_55 : decode cX1_firstWrong 55 = .ok (.bipush (-9), 2) := by decide +kernel
theorem dX1_firstWrong_57 : decode cX1_firstWrong 57 = .ok (.ireturn, 1) := by decide +kernel
set_option maxRecDepth 20000 in
theorem ggX1_leastLoad_X2_copyFrom : GoodIn wsX1_leastLoad wsX2_copyFrom := goodIn_r _ [7, 8, 9, 10, 11, 12, 13, 89, 90, 91, 92, 93, 94] (by decide +kernel) (by decide +kernel)
set_option maxRecDepth 20000 in
theorem gX1_leastLoad_X2_copyFrom : GoodIn wsX1_leastLoad (wsV RX1 26 RX2 yX2_copyFrom wsX2_copyFrom) := goodIn_app (goodIn_of _ (by decide +kernel)) ggX1_leastLoad_X2_copyFrom
set_option maxRecDepth 20000 in
theorem ggX1_leastLoad_X1_leastLoadFrom : GoodIn wsX1_leastLoad wsX1_leastLoadFrom := goodIn_r _ [18, 2, 1, 19, 20, 21, 22, 23, 24, 25, 26, 6, 27, 28, 29, 30, 31, 8, 32, 33, 34, 35, 9, 36, 37, 38, 39, 13, 40, 41, 42, 43, 44, 45, 46, 47, 48, 49, 50, 51, 52, 53, 12, 11, 10, 54, 55, 56, 57, 58, 59, 60, 61, 62, 63, 64, 65, 66, 67, 3, 4, 5, 7, 68, 69, 70, 71, 72, 73, 74, 75, 76, 77, 78, 79, 80, 81, 82, 17, 83, 84, 85, 14, 15, 16, 86, 87, 88, 89, 90, 91, 92, 93, 94] (by decide +kernel) (by decide +kernel)
set_option maxRecDepth 20000 in
theorem gX1_leastLoad_X1_leastLoadFrom : GoodIn wsX1_leastLoad (wsV RX1 34 RX1 yX1_leastLoadFrom wsX1_leastLoadFrom) := goodIn_app (goodIn_of _ (by decide +kernel)) ggX1_leastLoad_X1_leastLoadFrom
theorem dX1_leastLoad_0 : decode cX1_leastLoad 0 = .ok (.aload_n 0, 1) := by decide +kernel
theorem dX1_leastLoad_1 : decode cX1_leastLoad 1 = .ok (.getfield 21, 3) := by decide +kernel
theorem dX1_leastLoad_4 : decode cX1_leastLoad 4 = .ok (.iconst 0, 1) := by decide +kernel
theorem dX1_leastLoad_5 : decode cX1_leastLoad 5 = .ok (.aaload, 1) := by decide +kernel
theorem dX1_leastLoad_6 : decode cX1_leastLoad 6 = .ok (.aload_n 1, 1) := by decide +kernel
theorem dX1_leastLoad_7 : decode cX1_leastLoad 7 = .ok (.invokevirtual 26, 3) := by decide +kernel
theorem dX1_leastLoad_10 : decode cX1_leastLoad 10 = .ok (.aload_n 0, 1) := by decide +kernel
theorem dX1_leastLoad_11 : decode cX1_leastLoad 11 = .ok (.getfield 9, 3) := by decide +kernel
theorem dX1_leastLoad_14 : decode cX1_leastLoad 14 = .ok (.iconst 1, 1) := by decide +kernel
theorem dX1_leastLoad_15 : decode cX1_leastLoad 15 = .ok (.iadd, 1) := by decide +kernel
theorem dX1_leastLoad_16 : decode cX1_leastLoad 16 = .ok (.istore_n 2, 1) := by decide +kernel
theorem dX1_leastLoad_17 : decode cX1_leastLoad 17 = .ok (.aload_n 0, 1) := by decide +kernel
theorem dX1_leastLoad_18 : decode cX1_leastLoad 18 = .ok (.iconst 0, 1) := by decide +kernel
theorem dX1_leastLoad_19 : decode cX1_leastLoad 19 = .ok (.iconst 0, 1) := by decide +kernel
theorem dX1_leastLoad_20 : decode cX1_leastLoad 20 = .ok (.iload_n 2, 1) := by decide +kernel
theorem dX1_leastLoad_21 : decode cX1_leastLoad 21 = .ok (.invokevirtual 34, 3) := by decide +kernel
theorem dX1_leastLoad_24 : decode cX1_leastLoad 24 = .ok (.istore_n 3, 1) := by decide +kernel
theorem dX1_leastLoad_25 : decode cX1_leastLoad 25 = .ok (.iload_n 3, 1) := by decide +kernel
theorem dX1_leastLoad_26 : decode cX1_leastLoad 26 = .ok (.iload_n 2, 1) := by decide +kernel
theorem dX1_leastLoad_27 : decode cX1_leastLoad 27 = .ok (.if_icmp .ge 7, 3) := by decide +kernel
theorem dX1_leastLoad_30 : decode cX1_leastLoad 30 = .ok (.iload_n 3, 1) := by decide +kernel
theorem dX1_leastLoad_31 : decode cX1_leastLoad 31 = .ok (.goto 5, 3) := by decide +kernel
theorem dX1_leastLoad_34 : decode cX1_leastLoad 34 = .ok (.bipush (-9), 2) := by decide +kernel
theorem dX1_leastLoad_36 : decode cX1_leastLoad 36 = .ok (.ireturn, 1) := by decide +kernel
set_option maxRecDepth 20000 in
theorem ggX1_leastLoadFrom_X2_areTwo : GoodIn wsX1_leastLoadFrom wsX2_areTwo := goodIn_r _ [12, 13, 14, 15, 11, 16, 17, 88, 89, 90, 91, 92, 93] (by decide +kernel) (by decide +kernel)
set_option maxRecDepth 20000 in
theorem gX1_leastLoadFrom_X2_areTwo : GoodIn wsX1_leastLoadFrom (wsV RX1 38 RX2 yX2_areTwo wsX2_areTwo) := goodIn_app (goodIn_of _ (by decide +kernel)) ggX1_leastLoadFrom_X2_areTwo
set_option maxRecDepth 20000 in
theorem ggX1_leastLoadFrom_X2_waysToDance : GoodIn wsX1_leastLoadFrom wsX2_waysToDance := goodIn_r _ [21, 22, 23, 24, 25, 11, 26, 27, 28, 29, 30, 31, 32, 33, 34, 35, 36, 6, 37, 17, 38, 39, 40, 41, 42, 43, 44, 45, 46, 47, 48, 49, 50, 51, 52, 53, 54, 55, 56, 57, 58, 88, 89, 90, 91, 92, 93] (by decide +kernel) (by decide +kernel)
set_option maxRecDepth 20000 in
theorem gX1_leastLoadFrom_X2_waysToDance : GoodIn wsX1_leastLoadFrom (wsV RX1 41 RX2 yX2_waysToDance wsX2_waysToDance) := goodIn_app (goodIn_of _ (by decide +kernel)) ggX1_leastLoadFrom_X2_waysToDance
set_option maxRecDepth 20000 in
theorem ggX1_leastLoadFrom_X6_hasBit : GoodIn wsX1_leastLoadFrom wsX6_hasBit := goodIn_r _ [30] (by decide +kernel) (by decide +kernel)
set_option maxRecDepth 20000 in
theorem gX1_leastLoadFrom_X6_hasBit_n45 : GoodIn wsX1_leastLoadFrom (wsX6_hasBit) := ggX1_leastLoadFrom_X6_hasBit
set_option maxRecDepth 20000 in
theorem ggX1_leastLoadFrom_X2_copyFrom : GoodIn wsX1_leastLoadFrom wsX2_copyFrom := goodIn_r _ [62, 17, 22, 44, 43, 42, 27, 88, 89, 90, 91, 92, 93] (by decide +kernel) (by decide +kernel)
set_option maxRecDepth 20000 in
theorem gX1_leastLoadFrom_X2_copyFrom : GoodIn wsX1_leastLoadFrom (wsV RX1 26 RX2 yX2_copyFrom wsX2_copyFrom) := goodIn_app (goodIn_of _ (by decide +kernel)) ggX1_leastLoadFrom_X2_copyFrom
set_option maxRecDepth 20000 in
theorem ggX1_leastLoadFrom_X2_step : GoodIn wsX1_leastLoadFrom wsX2_step := goodIn_r _ [66, 22, 42, 13, 14, 15, 11, 16, 17, 31, 32, 33, 34, 27, 35, 36, 6, 37, 28, 29, 30, 38, 39, 40, 41, 43, 44, 45, 46, 47, 48, 49, 50, 51, 52, 53, 54, 67, 68, 69, 70, 71, 72, 73, 74, 9, 10, 12, 88, 89, 90, 91, 92, 93] (by decide +kernel) (by decide +kernel)
set_option maxRecDepth 20000 in
theorem gX1_leastLoadFrom_X2_step : GoodIn wsX1_leastLoadFrom (wsV RX1 48 RX2 yX2_step wsX2_step) := goodIn_app (goodIn_of _ (by decide +kernel)) ggX1_leastLoadFrom_X2_step
set_option maxRecDepth 20000 in
theorem ggX1_leastLoadFrom_X1_broughtTonight : GoodIn wsX1_leastLoadFrom wsX1_broughtTonight := goodIn_r _ [79, 80, 2, 81, 14, 15, 11, 16, 17, 88, 89, 90, 91, 92, 93, 85, 86, 87] (by decide +kernel) (by decide +kernel)
set_option maxRecDepth 20000 in
theorem gX1_leastLoadFrom_X1_broughtTonight : GoodIn wsX1_leastLoadFrom (wsV RX1 52 RX1 yX1_broughtTonight wsX1_broughtTonight) := goodIn_app (goodIn_of _ (by decide +kernel)) ggX1_leastLoadFrom_X1_broughtTonight
set_option maxRecDepth 20000 in
theorem ggX1_leastLoadFrom_X1_leastLoadFrom : GoodIn wsX1_leastLoadFrom wsX1_leastLoadFrom := goodIn_r _ [0, 1, 2, 3, 4, 5, 6, 7, 8, 9, 10, 11, 12, 13, 14, 15, 16, 17, 18, 19, 20, 21, 22, 23, 24, 25, 26, 27, 28, 29, 30, 31, 32, 33, 34, 35, 36, 37, 38, 39, 40, 41, 42, 43, 44, 45, 46, 47, 48, 49, 50, 51, 52, 53, 54, 55, 56, 57, 58, 59, 60, 61, 62, 63, 64, 65, 66, 67, 68, 69, 70, 71, 72, 73, 74, 75, 76, 77, 78, 79, 80, 81, 82, 83, 84, 85, 86, 87, 88, 89, 90, 91, 92, 93] (by decide +kernel) (by decide +kernel)
set_option maxRecDepth 20000 in
theorem gX1_leastLoadFrom_X1_leastLoadFrom : GoodIn wsX1_leastLoadFrom (wsV RX1 34 RX1 yX1_leastLoadFrom wsX1_leastLoadFrom) := goodIn_app (goodIn_of _ (by decide +kernel)) ggX1_leastLoadFrom_X1_leastLoadFrom
theorem dX1_leastLoadFrom_0 : decode cX1_leastLoadFrom 0 = .ok (.iload_n 1, 1) := by decide +kernel
theorem dX1_leastLoadFrom_1 : decode cX1_leastLoadFrom 1 = .ok (.aload_n 0, 1) := by decide +kernel
theorem dX1_leastLoadFrom_2 : decode cX1_leastLoadFrom 2 = .ok (.getfield 9, 3) := by decide +kernel
theorem dX1_leastLoadFrom_5 : decode cX1_leastLoadFrom 5 = .ok (.if_icmp .ge 9, 3) := by decide +kernel
theorem dX1_leastLoadFrom_8 : decode cX1_leastLoadFrom 8 = .ok (.iload_n 1, 1) := by decide +kernel
theorem dX1_leastLoadFrom_9 : decode cX1_leastLoadFrom 9 = .ok (.bipush 6, 2) := by decide +kernel
theorem dX1_leastLoadFrom_11 : decode cX1_leastLoadFrom 11 = .ok (.if_icmp .lt 5, 3) := by decide +kernel
theorem dX1_leastLoadFrom_14 : decode cX1_leastLoadFrom 14 = .ok (.iload_n 2, 1) := by decide +kernel
theorem dX1_leastLoadFrom_15 : decode cX1_leastLoadFrom 15 = .ok (.ireturn, 1) := by decide +kernel
theorem dX1_leastLoadFrom_16 : decode cX1_leastLoadFrom 16 = .ok (.aload_n 0, 1) := by decide +kernel
theorem dX1_leastLoadFrom_17 : decode cX1_leastLoadFrom 17 = .ok (.getfield 21, 3) := by decide +kernel
theorem dX1_leastLoadFrom_20 : decode cX1_leastLoadFrom 20 = .ok (.iload_n 1, 1) := by decide +kernel
theorem dX1_leastLoadFrom_21 : decode cX1_leastLoadFrom 21 = .ok (.aaload, 1) := by decide +kernel
theorem dX1_leastLoadFrom_22 : decode cX1_leastLoadFrom 22 = .ok (.astore 4, 2) := by decide +kernel
theorem dX1_leastLoadFrom_24 : decode cX1_leastLoadFrom 24 = .ok (.aload_n 0, 1) := by decide +kernel
theorem dX1_leastLoadFrom_25 : decode cX1_leastLoadFrom 25 = .ok (.getfield 21, 3) := by decide +kernel
theorem dX1_leastLoadFrom_28 : decode cX1_leastLoadFrom 28 = .ok (.iload_n 1, 1) := by decide +kernel
theorem dX1_leastLoadFrom_29 : decode cX1_leastLoadFrom 29 = .ok (.iconst 1, 1) := by decide +kernel
theorem dX1_leastLoadFrom_30 : decode cX1_leastLoadFrom 30 = .ok (.iadd, 1) := by decide +kernel
theorem dX1_leastLoadFrom_31 : decode cX1_leastLoadFrom 31 = .ok (.aaload, 1) := by decide +kernel
theorem dX1_leastLoadFrom_32 : decode cX1_leastLoadFrom 32 = .ok (.astore 5, 2) := by decide +kernel
theorem dX1_leastLoadFrom_34 : decode cX1_leastLoadFrom 34 = .ok (.aload_n 0, 1) := by decide +kernel
theorem dX1_leastLoadFrom_35 : decode cX1_leastLoadFrom 35 = .ok (.getfield 15, 3) := by decide +kernel
theorem dX1_leastLoadFrom_38 : decode cX1_leastLoadFrom 38 = .ok (.iload_n 1, 1) := by decide +kernel
theorem dX1_leastLoadFrom_39 : decode cX1_leastLoadFrom 39 = .ok (.iaload, 1) := by decide +kernel
theorem dX1_leastLoadFrom_40 : decode cX1_leastLoadFrom 40 = .ok (.bipush 10, 2) := by decide +kernel
theorem dX1_leastLoadFrom_42 : decode cX1_leastLoadFrom 42 = .ok (.idiv, 1) := by decide +kernel
theorem dX1_leastLoadFrom_43 : decode cX1_leastLoadFrom 43 = .ok (.istore 6, 2) := by decide +kernel
theorem dX1_leastLoadFrom_45 : decode cX1_leastLoadFrom 45 = .ok (.aload_n 0, 1) := by decide +kernel
theorem dX1_leastLoadFrom_46 : decode cX1_leastLoadFrom 46 = .ok (.getfield 15, 3) := by decide +kernel
theorem dX1_leastLoadFrom_49 : decode cX1_leastLoadFrom 49 = .ok (.iload_n 1, 1) := by decide +kernel
theorem dX1_leastLoadFrom_50 : decode cX1_leastLoadFrom 50 = .ok (.iaload, 1) := by decide +kernel
theorem dX1_leastLoadFrom_51 : decode cX1_leastLoadFrom 51 = .ok (.bipush 10, 2) := by decide +kernel
theorem dX1_leastLoadFrom_53 : decode cX1_leastLoadFrom 53 = .ok (.irem, 1) := by decide +kernel
theorem dX1_leastLoadFrom_54 : decode cX1_leastLoadFrom 54 = .ok (.istore 7, 2) := by decide +kernel
theorem dX1_leastLoadFrom_56 : decode cX1_leastLoadFrom 56 = .ok (.aload 4, 2) := by decide +kernel
theorem dX1_leastLoadFrom_58 : decode cX1_leastLoadFrom 58 = .ok (.iload 6, 2) := by decide +kernel
theorem dX1_leastLoadFrom_60 : decode cX1_leastLoadFrom 60 = .ok (.iload 7, 2) := by decide +kernel
theorem dX1_leastLoadFrom_62 : decode cX1_leastLoadFrom 62 = .ok (.invokevirtual 38, 3) := by decide +kernel
theorem dX1_leastLoadFrom_65 : decode cX1_leastLoadFrom 65 = .ok (.ifCond .ne 5, 3) := by decide +kernel
theorem dX1_leastLoadFrom_68 : decode cX1_leastLoadFrom 68 = .ok (.iload_n 3, 1) := by decide +kernel
theorem dX1_leastLoadFrom_69 : decode cX1_leastLoadFrom 69 = .ok (.ireturn, 1) := by decide +kernel
theorem dX1_leastLoadFrom_70 : decode cX1_leastLoadFrom 70 = .ok (.aload 4, 2) := by decide +kernel
theorem dX1_leastLoadFrom_72 : decode cX1_leastLoadFrom 72 = .ok (.iload 6, 2) := by decide +kernel
theorem dX1_leastLoadFrom_74 : decode cX1_leastLoadFrom 74 = .ok (.iload 7, 2) := by decide +kernel
theorem dX1_leastLoadFrom_76 : decode cX1_leastLoadFrom 76 = .ok (.invokevirtual 41, 3) := by decide +kernel
theorem dX1_leastLoadFrom_79 : decode cX1_leastLoadFrom 79 = .ok (.istore 8, 2) := by decide +kernel
theorem dX1_leastLoadFrom_81 : decode cX1_leastLoadFrom 81 = .ok (.iload 8, 2) := by decide +kernel
theorem dX1_leastLoadFrom_83 : decode cX1_leastLoadFrom 83 = .ok (.bipush 9, 2) := by decide +kernel
theorem dX1_leastLoadFrom_85 : decode cX1_leastLoadFrom 85 = .ok (.invokestatic 45, 3) := by decide +kernel
theorem dX1_leastLoadFrom_88 : decode cX1_leastLoadFrom 88 = .ok (.ifCond .eq 8, 3) := by decide +kernel
theorem dX1_leastLoadFrom_91 : decode cX1_leastLoadFrom 91 = .ok (.bipush 9, 2) := by decide +kernel
theorem dX1_leastLoadFrom_93 : decode cX1_leastLoadFrom 93 = .ok (.goto 4, 3) := by decide +kernel
theorem dX1_leastLoadFrom_96 : decode cX1_leastLoadFrom 96 = .ok (.iconst 0, 1) := by decide +kernel
theorem dX1_leastLoadFrom_97 : decode cX1_leastLoadFrom 97 = .ok (.istore 9, 2) := by decide +kernel
theorem dX1_leastLoadFrom_99 : decode cX1_leastLoadFrom 99 = .ok (.iload_n 3, 1) := by decide +kernel
theorem dX1_leastLoadFrom_100 : decode cX1_leastLoadFrom 100 = .ok (.istore 10, 2) := by decide +kernel
theorem dX1_leastLoadFrom_102 : decode cX1_leastLoadFrom 102 = .ok (.iload 9, 2) := by decide +kernel
theorem dX1_leastLoadFrom_104 : decode cX1_leastLoadFrom 104 = .ok (.istore 11, 2) := by decide +kernel
theorem dX1_leastLoadFrom_106 : decode cX1_leastLoadFrom 106 = .ok (.iload 11, 2) := by decide +kernel
theorem dX1_leastLoadFrom_108 : decode cX1_leastLoadFrom 108 = .ok (.bipush 9, 2) := by decide +kernel
theorem dX1_leastLoadFrom_110 : decode cX1_leastLoadFrom 110 = .ok (.if_icmp .gt 71, 3) := by decide +kernel
theorem dX1_leastLoadFrom_113 : decode cX1_leastLoadFrom 113 = .ok (.iload 8, 2) := by decide +kernel
theorem dX1_leastLoadFrom_115 : decode cX1_leastLoadFrom 115 = .ok (.iload 11, 2) := by decide +kernel
theorem dX1_leastLoadFrom_117 : decode cX1_leastLoadFrom 117 = .ok (.invokestatic 45, 3) := by decide +kernel
theorem dX1_leastLoadFrom_120 : decode cX1_leastLoadFrom 120 = .ok (.ifCond .eq 55, 3) := by decide +kernel
theorem dX1_leastLoadFrom_123 : decode cX1_leastLoadFrom 123 = .ok (.aload 5, 2) := by decide +kernel
theorem dX1_leastLoadFrom_125 : decode cX1_leastLoadFrom 125 = .ok (.aload 4, 2) := by decide +kernel
theorem dX1_leastLoadFrom_127 : decode cX1_leastLoadFrom 127 = .ok (.invokevirtual 26, 3) := by decide +kernel
theorem dX1_leastLoadFrom_130 : decode cX1_leastLoadFrom 130 = .ok (.aload 5, 2) := by decide +kernel
theorem dX1_leastLoadFrom_132 : decode cX1_leastLoadFrom 132 = .ok (.iload 6, 2) := by decide +kernel
theorem dX1_leastLoadFrom_134 : decode cX1_leastLoadFrom 134 = .ok (.iload 7, 2) := by decide +kernel
theorem dX1_leastLoadFrom_136 : decode cX1_leastLoadFrom 136 = .ok (.iload 11, 2) := by decide +kernel
theorem dX1_leastLoadFrom_138 : decode cX1_leastLoadFrom 138 = .ok (.invokevirtual 48, 3) := by decide +kernel
theorem dX1_leastLoadFrom_141 : decode cX1_leastLoadFrom 141 = .ok (.iload_n 2, 1) := by decide +kernel
theorem dX1_leastLoadFrom_142 : decode cX1_leastLoadFrom 142 = .ok (.aload_n 0, 1) := by decide +kernel
theorem dX1_leastLoadFrom_143 : decode cX1_leastLoadFrom 143 = .ok (.aload 5, 2) := by decide +kernel
theorem dX1_leastLoadFrom_145 : decode cX1_leastLoadFrom 145 = .ok (.iload 11, 2) := by decide +kernel
theorem dX1_leastLoadFrom_147 : decode cX1_leastLoadFrom 147 = .ok (.invokevirtual 52, 3) := by decide +kernel
theorem dX1_leastLoadFrom_150 : decode cX1_leastLoadFrom 150 = .ok (.invokestatic 56, 3) := by decide +kernel
theorem dX1_leastLoadFrom_153 : decode cX1_leastLoadFrom 153 = .ok (.istore 12, 2) := by decide +kernel
theorem dX1_leastLoadFrom_155 : decode cX1_leastLoadFrom 155 = .ok (.iload 12, 2) := by decide +kernel
theorem dX1_leastLoadFrom_157 : decode cX1_leastLoadFrom 157 = .ok (.iload 10, 2) := by decide +kernel
theorem dX1_leastLoadFrom_159 : decode cX1_leastLoadFrom 159 = .ok (.if_icmp .ge 16, 3) := by decide +kernel
theorem dX1_leastLoadFrom_162 : decode cX1_leastLoadFrom 162 = .ok (.aload_n 0, 1) := by decide +kernel
theorem dX1_leastLoadFrom_163 : decode cX1_leastLoadFrom 163 = .ok (.iload_n 1, 1) := by decide +kernel
theorem dX1_leastLoadFrom_164 : decode cX1_leastLoadFrom 164 = .ok (.iconst 1, 1) := by decide +kernel
theorem dX1_leastLoadFrom_165 : decode cX1_leastLoadFrom 165 = .ok (.iadd, 1) := by decide +kernel
theorem dX1_leastLoadFrom_166 : decode cX1_leastLoadFrom 166 = .ok (.iload 12, 2) := by decide +kernel
theorem dX1_leastLoadFrom_168 : decode cX1_leastLoadFrom 168 = .ok (.iload 10, 2) := by decide +kernel
theorem dX1_leastLoadFrom_170 : decode cX1_leastLoadFrom 170 = .ok (.invokevirtual 34, 3) := by decide +kernel
theorem dX1_leastLoadFrom_173 : decode cX1_leastLoadFrom 173 = .ok (.istore 10, 2) := by decide +kernel
theorem dX1_leastLoadFrom_175 : decode cX1_leastLoadFrom 175 = .ok (.iinc 11 1, 3) := by decide +kernel
theorem dX1_leastLoadFrom_178 : decode cX1_leastLoadFrom 178 = .ok (.goto (-72), 3) := by decide +kernel
theorem dX1_leastLoadFrom_181 : decode cX1_leastLoadFrom 181 = .ok (.iload 10, 2) := by decide +kernel
theorem dX1_leastLoadFrom_183 : decode cX1_leastLoadFrom 183 = .ok (.ireturn, 1) := by decide +kernel
set_option maxRecDepth 20000 in
theorem ggX1_broughtTonight_X2_isThere : GoodIn wsX1_broughtTonight wsX2_isThere := goodIn_r _ [7, 8, 9, 10, 11, 12, 13, 14] (by decide +kernel) (by decide +kernel)
set_option maxRecDepth 20000 in
theorem gX1_broughtTonight_X2_isThere : GoodIn wsX1_broughtTonight (wsV RX1 61 RX2 yX2_isThere wsX2_isThere) := goodIn_app (goodIn_of _ (by decide +kernel)) ggX1_broughtTonight_X2_isThere
theorem dX1_broughtTonight_0 : decode cX1_broughtTonight 0 = .ok (.aload_n 1, 1) := by decide +kernel
theorem dX1_broughtTonight_1 : decode cX1_broughtTonight 1 = .ok (.iload_n 2, 1) := by decide +kernel
theorem dX1_broughtTonight_2 : decode cX1_broughtTonight 2 = .ok (.invokevirtual 61, 3) := by decide +kernel
theorem dX1_broughtTonight_5 : decode cX1_broughtTonight 5 = .ok (.ifCond .eq 24, 3) := by decide +kernel
theorem dX1_broughtTonight_8 : decode cX1_broughtTonight 8 = .ok (.aload_n 1, 1) := by decide +kernel
theorem dX1_broughtTonight_9 : decode cX1_broughtTonight 9 = .ok (.getfield 65, 3) := by decide +kernel
theorem dX1_broughtTonight_12 : decode cX1_broughtTonight 12 = .ok (.iload_n 2, 1) := by decide +kernel
theorem dX1_broughtTonight_13 : decode cX1_broughtTonight 13 = .ok (.iaload, 1) := by decide +kernel
theorem dX1_broughtTonight_14 : decode cX1_broughtTonight 14 = .ok (.aload_n 0, 1) := by decide +kernel
theorem dX1_broughtTonight_15 : decode cX1_broughtTonight 15 = .ok (.getfield 21, 3) := by decide +kernel
theorem dX1_broughtTonight_18 : decode cX1_broughtTonight 18 = .ok (.iconst 0, 1) := by decide +kernel
theorem dX1_broughtTonight_19 : decode cX1_broughtTonight 19 = .ok (.aaload, 1) := by decide +kernel
theorem dX1_broughtTonight_20 : decode cX1_broughtTonight 20 = .ok (.getfield 65, 3) := by decide +kernel
theorem dX1_broughtTonight_23 : decode cX1_broughtTonight 23 = .ok (.iload_n 2, 1) := by decide +kernel
theorem dX1_broughtTonight_24 : decode cX1_broughtTonight 24 = .ok (.iaload, 1) := by decide +kernel
theorem dX1_broughtTonight_25 : decode cX1_broughtTonight 25 = .ok (.isub, 1) := by decide +kernel
theorem dX1_broughtTonight_26 : decode cX1_broughtTonight 26 = .ok (.goto 4, 3) := by decide +kernel
theorem dX1_broughtTonight_29 : decode cX1_broughtTonight 29 = .ok (.iconst 0, 1) := by decide +kernel
theorem dX1_broughtTonight_30 : decode cX1_broughtTonight 30 = .ok (.ireturn, 1) := by decide +kernel
set_option maxRecDepth 20000 in
theorem ggX1_goodOrders_X2_copyFrom : GoodIn wsX1_goodOrders wsX2_copyFrom := goodIn_r _ [6, 7, 8, 9, 10, 11, 12, 83, 84, 85, 86, 87, 88] (by decide +kernel) (by decide +kernel)
set_option maxRecDepth 20000 in
theorem gX1_goodOrders_X2_copyFrom : GoodIn wsX1_goodOrders (wsV RX1 26 RX2 yX2_copyFrom wsX2_copyFrom) := goodIn_app (goodIn_of _ (by decide +kernel)) ggX1_goodOrders_X2_copyFrom
set_option maxRecDepth 20000 in
theorem ggX1_goodOrders_X1_goodOrdersFrom : GoodIn wsX1_goodOrders wsX1_goodOrdersFrom := goodIn_r _ [17, 18, 1, 19, 20, 21, 22, 2, 3, 4, 5, 6, 7, 8, 9, 10, 11, 12, 23, 24, 25, 26, 27, 28, 29, 30, 31, 32, 33, 34, 35, 36, 37, 38, 39, 40, 41, 42, 43, 44, 45, 46, 47, 48, 49, 50, 51, 52, 53, 54, 55, 56, 57, 58, 59, 60, 61, 62, 63, 64, 65, 66, 67, 68, 69, 70, 71, 72, 73, 74, 75, 76, 77, 78, 79, 13, 14, 15, 16, 80, 81, 82, 83, 84, 85, 86, 87, 88] (by decide +kernel) (by decide +kernel)
set_option maxRecDepth 20000 in
theorem gX1_goodOrders_X1_goodOrdersFrom : GoodIn wsX1_goodOrders (wsV RX1 68 RX1 yX1_goodOrdersFrom wsX1_goodOrdersFrom) := goodIn_app (goodIn_of _ (by decide +kernel)) ggX1_goodOrders_X1_goodOrdersFrom
theorem dX1_goodOrders_0 : decode cX1_goodOrders 0 = .ok (.aload_n 0, 1) := by decide +kernel
theorem dX1_goodOrders_1 : decode cX1_goodOrders 1 = .ok (.getfield 21, 3) := by decide +kernel
theorem dX1_goodOrders_4 : decode cX1_goodOrders 4 = .ok (.iconst 0, 1) := by decide +kernel
theorem dX1_goodOrders_5 : decode cX1_goodOrders 5 = .ok (.aaload, 1) := by decide +kernel
theorem dX1_goodOrders_6 : decode cX1_goodOrders 6 = .ok (.aload_n 1, 1) := by decide +kernel
theorem dX1_goodOrders_7 : decode cX1_goodOrders 7 = .ok (.invokevirtual 26, 3) := by decide +kernel
theorem dX1_goodOrders_10 : decode cX1_goodOrders 10 = .ok (.aload_n 0, 1) := by decide +kernel
theorem dX1_goodOrders_11 : decode cX1_goodOrders 11 = .ok (.iconst 0, 1) := by decide +kernel
theorem dX1_goodOrders_12 : decode cX1_goodOrders 12 = .ok (.iconst 0, 1) := by decide +kernel
theorem dX1_goodOrders_13 : decode cX1_goodOrders 13 = .ok (.invokevirtual 68, 3) := by decide +kernel
theorem dX1_goodOrders_16 : decode cX1_goodOrders 16 = .ok (.ireturn, 1) := by decide +kernel
set_option maxRecDepth 20000 in
theorem ggX1_goodOrdersFrom_X6_hasBit : GoodIn wsX1_goodOrdersFrom wsX6_hasBit := goodIn_r _ [6] (by decide +kernel) (by decide +kernel)
set_option maxRecDepth 20000 in
theorem gX1_goodOrdersFrom_X6_hasBit_n45 : GoodIn wsX1_goodOrdersFrom (wsX6_hasBit) := ggX1_goodOrdersFrom_X6_hasBit
set_option maxRecDepth 20000 in
theorem ggX1_goodOrdersFrom_X2_copyFrom : GoodIn wsX1_goodOrdersFrom wsX2_copyFrom := goodIn_r _ [11, 12, 13, 14, 15, 16, 17, 82, 83, 84, 85, 86, 87] (by decide +kernel) (by decide +kernel)
set_option maxRecDepth 20000 in
theorem gX1_goodOrdersFrom_X2_copyFrom : GoodIn wsX1_goodOrdersFrom (wsV RX1 26 RX2 yX2_copyFrom wsX2_copyFrom) := goodIn_app (goodIn_of _ (by decide +kernel)) ggX1_goodOrdersFrom_X2_copyFrom
set_option maxRecDepth 20000 in
theorem ggX1_goodOrdersFrom_X2_stepByLeast : GoodIn wsX1_goodOrdersFrom wsX2_stepByLeast := goodIn_r _ [21, 22, 23, 24, 10, 25, 26, 27, 28, 29, 12, 30, 31, 32, 33, 13, 34, 35, 36, 37, 17, 4, 5, 6, 38, 39, 40, 41, 42, 43, 44, 45, 46, 47, 48, 49, 16, 15, 14, 50, 51, 52, 53, 54, 55, 56, 57, 58, 59, 60, 61, 62, 63, 64, 65, 66, 67, 68, 69, 70, 71, 72, 73, 74, 82, 83, 84, 85, 86, 87] (by decide +kernel) (by decide +kernel)
set_option maxRecDepth 20000 in
theorem gX1_goodOrdersFrom_X2_stepByLeast : GoodIn wsX1_goodOrdersFrom (wsV RX1 30 RX2 yX2_stepByLeast wsX2_stepByLeast) := goodIn_app (goodIn_of _ (by decide +kernel)) ggX1_goodOrdersFrom_X2_stepByLeast
set_option maxRecDepth 20000 in
theorem ggX1_goodOrdersFrom_X1_goodOrdersFrom : GoodIn wsX1_goodOrdersFrom wsX1_goodOrdersFrom := goodIn_r _ [0, 1, 2, 3, 4, 5, 6, 7, 8, 9, 10, 11, 12, 13, 14, 15, 16, 17, 18, 19, 20, 21, 22, 23, 24, 25, 26, 27, 28, 29, 30, 31, 32, 33, 34, 35, 36, 37, 38, 39, 40, 41, 42, 43, 44, 45, 46, 47, 48, 49, 50, 51, 52, 53, 54, 55, 56, 57, 58, 59, 60, 61, 62, 63, 64, 65, 66, 67, 68, 69, 70, 71, 72, 73, 74, 75, 76, 77, 78, 79, 80, 81, 82, 83, 84, 85, 86, 87] (by decide +kernel) (by decide +kernel)
set_option maxRecDepth 20000 in
theorem gX1_goodOrdersFrom_X1_goodOrdersFrom : GoodIn wsX1_goodOrdersFrom (wsV RX1 68 RX1 yX1_goodOrdersFrom wsX1_goodOrdersFrom) := goodIn_app (goodIn_of _ (by decide +kernel)) ggX1_goodOrdersFrom_X1_goodOrdersFrom
theorem dX1_goodOrdersFrom_0 : decode cX1_goodOrdersFrom 0 = .ok (.iload_n 1, 1) := by decide +kernel
theorem dX1_goodOrdersFrom_1 : decode cX1_goodOrdersFrom 1 = .ok (.aload_n 0, 1) := by decide +kernel
theorem dX1_goodOrdersFrom_2 : decode cX1_goodOrdersFrom 2 = .ok (.getfield 9, 3) := by decide +kernel
theorem dX1_goodOrdersFrom_5 : decode cX1_goodOrdersFrom 5 = .ok (.if_icmp .ge 9, 3) := by decide +kernel
theorem dX1_goodOrdersFrom_8 : decode cX1_goodOrdersFrom 8 = .ok (.iload_n 1, 1) := by decide +kernel
theorem dX1_goodOrdersFrom_9 : decode cX1_goodOrdersFrom 9 = .ok (.bipush 6, 2) := by decide +kernel
theorem dX1_goodOrdersFrom_11 : decode cX1_goodOrdersFrom 11 = .ok (.if_icmp .lt 5, 3) := by decide +kernel
theorem dX1_goodOrdersFrom_14 : decode cX1_goodOrdersFrom 14 = .ok (.iconst 1, 1) := by decide +kernel
theorem dX1_goodOrdersFrom_15 : decode cX1_goodOrdersFrom 15 = .ok (.ireturn, 1) := by decide +kernel
theorem dX1_goodOrdersFrom_16 : decode cX1_goodOrdersFrom 16 = .ok (.aload_n 0, 1) := by decide +kernel
theorem dX1_goodOrdersFrom_17 : decode cX1_goodOrdersFrom 17 = .ok (.getfield 21, 3) := by decide +kernel
theorem dX1_goodOrdersFrom_20 : decode cX1_goodOrdersFrom 20 = .ok (.iload_n 1, 1) := by decide +kernel
theorem dX1_goodOrdersFrom_21 : decode cX1_goodOrdersFrom 21 = .ok (.iconst 1, 1) := by decide +kernel
theorem dX1_goodOrdersFrom_22 : decode cX1_goodOrdersFrom 22 = .ok (.iadd, 1) := by decide +kernel
theorem dX1_goodOrdersFrom_23 : decode cX1_goodOrdersFrom 23 = .ok (.aaload, 1) := by decide +kernel
theorem dX1_goodOrdersFrom_24 : decode cX1_goodOrdersFrom 24 = .ok (.astore_n 3, 1) := by decide +kernel
theorem dX1_goodOrdersFrom_25 : decode cX1_goodOrdersFrom 25 = .ok (.iconst 0, 1) := by decide +kernel
theorem dX1_goodOrdersFrom_26 : decode cX1_goodOrdersFrom 26 = .ok (.istore 4, 2) := by decide +kernel
theorem dX1_goodOrdersFrom_28 : decode cX1_goodOrdersFrom 28 = .ok (.iconst 0, 1) := by decide +kernel
theorem dX1_goodOrdersFrom_29 : decode cX1_goodOrdersFrom 29 = .ok (.istore 5, 2) := by decide +kernel
theorem dX1_goodOrdersFrom_31 : decode cX1_goodOrdersFrom 31 = .ok (.iload 5, 2) := by decide +kernel
theorem dX1_goodOrdersFrom_33 : decode cX1_goodOrdersFrom 33 = .ok (.aload_n 0, 1) := by decide +kernel
theorem dX1_goodOrdersFrom_34 : decode cX1_goodOrdersFrom 34 = .ok (.getfield 9, 3) := by decide +kernel
theorem dX1_goodOrdersFrom_37 : decode cX1_goodOrdersFrom 37 = .ok (.if_icmp .ge 73, 3) := by decide +kernel
theorem dX1_goodOrdersFrom_40 : decode cX1_goodOrdersFrom 40 = .ok (.iload_n 2, 1) := by decide +kernel
theorem dX1_goodOrdersFrom_41 : decode cX1_goodOrdersFrom 41 = .ok (.iload 5, 2) := by decide +kernel
theorem dX1_goodOrdersFrom_43 : decode cX1_goodOrdersFrom 43 = .ok (.invokestatic 45, 3) := by decide +kernel
theorem dX1_goodOrdersFrom_46 : decode cX1_goodOrdersFrom 46 = .ok (.ifCond .ne 58, 3) := by decide +kernel
theorem dX1_goodOrdersFrom_49 : decode cX1_goodOrdersFrom 49 = .ok (.aload_n 3, 1) := by decide +kernel
theorem dX1_goodOrdersFrom_50 : decode cX1_goodOrdersFrom 50 = .ok (.aload_n 0, 1) := by decide +kernel
theorem dX1_goodOrdersFrom_51 : decode cX1_goodOrdersFrom 51 = .ok (.getfield 21, 3) := by decide +kernel
theorem dX1_goodOrdersFrom_54 : decode cX1_goodOrdersFrom 54 = .ok (.iload_n 1, 1) := by decide +kernel
theorem dX1_goodOrdersFrom_55 : decode cX1_goodOrdersFrom 55 = .ok (.aaload, 1) := by decide +kernel
theorem dX1_goodOrdersFrom_56 : decode cX1_goodOrdersFrom 56 = .ok (.invokevirtual 26, 3) := by decide +kernel
theorem dX1_goodOrdersFrom_59 : decode cX1_goodOrdersFrom 59 = .ok (.aload_n 3, 1) := by decide +kernel
theorem dX1_goodOrdersFrom_60 : decode cX1_goodOrdersFrom 60 = .ok (.aload_n 0, 1) := by decide +kernel
theorem dX1_goodOrdersFrom_61 : decode cX1_goodOrdersFrom 61 = .ok (.getfield 15, 3) := by decide +kernel
theorem dX1_goodOrdersFrom_64 : decode cX1_goodOrdersFrom 64 = .ok (.iload 5, 2) := by decide +kernel
theorem dX1_goodOrdersFrom_66 : decode cX1_goodOrdersFrom 66 = .ok (.iaload, 1) := by decide +kernel
theorem dX1_goodOrdersFrom_67 : decode cX1_goodOrdersFrom 67 = .ok (.bipush 10, 2) := by decide +kernel
theorem dX1_goodOrdersFrom_69 : decode cX1_goodOrdersFrom 69 = .ok (.idiv, 1) := by decide +kernel
theorem dX1_goodOrdersFrom_70 : decode cX1_goodOrdersFrom 70 = .ok (.aload_n 0, 1) := by decide +kernel
theorem dX1_goodOrdersFrom_71 : decode cX1_goodOrdersFrom 71 = .ok (.getfield 15, 3) := by decide +kernel
theorem dX1_goodOrdersFrom_74 : decode cX1_goodOrdersFrom 74 = .ok (.iload 5, 2) := by decide +kernel
theorem dX1_goodOrdersFrom_76 : decode cX1_goodOrdersFrom 76 = .ok (.iaload, 1) := by decide +kernel
theorem dX1_goodOrdersFrom_77 : decode cX1_goodOrdersFrom 77 = .ok (.bipush 10, 2) := by decide +kernel
theorem dX1_goodOrdersFrom_79 : decode cX1_goodOrdersFrom 79 = .ok (.irem, 1) := by decide +kernel
theorem dX1_goodOrdersFrom_80 : decode cX1_goodOrdersFrom 80 = .ok (.invokevirtual 30, 3) := by decide +kernel
theorem dX1_goodOrdersFrom_83 : decode cX1_goodOrdersFrom 83 = .ok (.ifCond .eq 21, 3) := by decide +kernel
theorem dX1_goodOrdersFrom_86 : decode cX1_goodOrdersFrom 86 = .ok (.iload 4, 2) := by decide +kernel
theorem dX1_goodOrdersFrom_88 : decode cX1_goodOrdersFrom 88 = .ok (.aload_n 0, 1) := by decide +kernel
theorem dX1_goodOrdersFrom_89 : decode cX1_goodOrdersFrom 89 = .ok (.iload_n 1, 1) := by decide +kernel
theorem dX1_goodOrdersFrom_90 : decode cX1_goodOrdersFrom 90 = .ok (.iconst 1, 1) := by decide +kernel
theorem dX1_goodOrdersFrom_91 : decode cX1_goodOrdersFrom 91 = .ok (.iadd, 1) := by decide +kernel
theorem dX1_goodOrdersFrom_92 : decode cX1_goodOrdersFrom 92 = .ok (.iload_n 2, 1) := by decide +kernel
theorem dX1_goodOrdersFrom_93 : decode cX1_goodOrdersFrom 93 = .ok (.iconst 1, 1) := by decide +kernel
theorem dX1_goodOrdersFrom_94 : decode cX1_goodOrdersFrom 94 = .ok (.iload 5, 2) := by decide +kernel
theorem dX1_goodOrdersFrom_96 : decode cX1_goodOrdersFrom 96 = .ok (.ishl, 1) := by decide +kernel
theorem dX1_goodOrdersFrom_97 : decode cX1_goodOrdersFrom 97 = .ok (.ior, 1) := by decide +kernel
theorem dX1_goodOrdersFrom_98 : decode cX1_goodOrdersFrom 98 = .ok (.invokevirtual 68, 3) := by decide +kernel
theorem dX1_goodOrdersFrom_101 : decode cX1_goodOrdersFrom 101 = .ok (.iadd, 1) := by decide +kernel
theorem dX1_goodOrdersFrom_102 : decode cX1_goodOrdersFrom 102 = .ok (.istore 4, 2) := by decide +kernel
theorem dX1_goodOrdersFrom_104 : decode cX1_goodOrdersFrom 104 = .ok (.iinc 5 1, 3) := by decide +kernel
theorem dX1_goodOrdersFrom_107 : decode cX1_goodOrdersFrom 107 = .ok (.goto (-76), 3) := by decide +kernel
theorem dX1_goodOrdersFrom_110 : decode cX1_goodOrdersFrom 110 = .ok (.iload 4, 2) := by decide +kernel
theorem dX1_goodOrdersFrom_112 : decode cX1_goodOrdersFrom 112 = .ok (.ireturn, 1) := by decide +kernel
set_option maxRecDepth 20000 in
theorem ggX1_pairsBySeed_X2_copyFrom : GoodIn wsX1_pairsBySeed wsX2_copyFrom := goodIn_r _ [7, 8, 9, 10, 11, 12, 13, 91, 92, 93, 94, 95, 96] (by decide +kernel) (by decide +kernel)
set_option maxRecDepth 20000 in
theorem gX1_pairsBySeed_X2_copyFrom : GoodIn wsX1_pairsBySeed (wsV RX1 26 RX2 yX2_copyFrom wsX2_copyFrom) := goodIn_app (goodIn_of _ (by decide +kernel)) ggX1_pairsBySeed_X2_copyFrom
set_option maxRecDepth 20000 in
theorem ggX1_pairsBySeed_X1_nextSeed : GoodIn wsX1_pairsBySeed wsX1_nextSeed := goodIn_r _ [17, 18] (by decide +kernel) (by decide +kernel)
set_option maxRecDepth 20000 in
theorem gX1_pairsBySeed_X1_nextSeed : GoodIn wsX1_pairsBySeed (va_wsS RX1 71 yX1_nextSeed wsX1_nextSeed) := goodIn_app (goodIn_of _ (by decide +kernel)) ggX1_pairsBySeed_X1_nextSeed
set_option maxRecDepth 20000 in
theorem ggX1_pairsBySeed_X1_drawBelow : GoodIn wsX1_pairsBySeed wsX1_drawBelow := goodIn_r _ [21, 22, 23] (by decide +kernel) (by decide +kernel)
set_option maxRecDepth 20000 in
theorem gX1_pairsBySeed_X1_drawBelow : GoodIn wsX1_pairsBySeed (va_wsS RX1 76 yX1_drawBelow wsX1_drawBelow) := goodIn_app (goodIn_of _ (by decide +kernel)) ggX1_pairsBySeed_X1_drawBelow
set_option maxRecDepth 20000 in
theorem ggX1_pairsBySeed_X2_stepByLeast : GoodIn wsX1_pairsBySeed wsX2_stepByLeast := goodIn_r _ [27, 28, 29, 30, 6, 31, 32, 33, 34, 35, 8, 36, 37, 38, 39, 9, 40, 41, 42, 43, 13, 44, 45, 46, 47, 48, 49, 50, 51, 52, 53, 54, 55, 56, 57, 58, 12, 11, 10, 59, 60, 61, 62, 63, 64, 65, 66, 67, 68, 69, 70, 71, 72, 73, 74, 75, 76, 77, 78, 79, 80, 81, 82, 83, 91, 92, 93, 94, 95, 96] (by decide +kernel) (by decide +kernel)
set_option maxRecDepth 20000 in
theorem gX1_pairsBySeed_X2_stepByLeast : GoodIn wsX1_pairsBySeed (wsV RX1 30 RX2 yX2_stepByLeast wsX2_stepByLeast) := goodIn_app (goodIn_of _ (by decide +kernel)) ggX1_pairsBySeed_X2_stepByLeast
set_option maxRecDepth 20000 in
theorem ggX1_pairsBySeed_X2_pairsDanced : GoodIn wsX1_pairsBySeed wsX2_pairsDanced := goodIn_r _ [87, 8, 13, 62, 63, 64, 65, 66, 67, 68, 91, 92, 93, 94, 95, 96] (by decide +kernel) (by decide +kernel)
set_option maxRecDepth 20000 in
theorem gX1_pairsBySeed_X2_pairsDanced : GoodIn wsX1_pairsBySeed (wsV RX1 79 RX2 yX2_pairsDanced wsX2_pairsDanced) := goodIn_app (goodIn_of _ (by decide +kernel)) ggX1_pairsBySeed_X2_pairsDanced
theorem dX1_pairsBySeed_0 : decode cX1_pairsBySeed 0 = .ok (.aload_n 0, 1) := by decide +kernel
theorem dX1_pairsBySeed_1 : decode cX1_pairsBySeed 1 = .ok (.getfield 21, 3) := by decide +kernel
theorem dX1_pairsBySeed_4 : decode cX1_pairsBySeed 4 = .ok (.iconst 0, 1) := by decide +kernel
theorem dX1_pairsBySeed_5 : decode cX1_pairsBySeed 5 = .ok (.aaload, 1) := by decide +kernel
theorem dX1_pairsBySeed_6 : decode cX1_pairsBySeed 6 = .ok (.astore 4, 2) := by decide +kernel
theorem dX1_pairsBySeed_8 : decode cX1_pairsBySeed 8 = .ok (.aload 4, 2) := by decide +kernel
theorem dX1_pairsBySeed_10 : decode cX1_pairsBySeed 10 = .ok (.aload_n 1, 1) := by decide +kernel
theorem dX1_pairsBySeed_11 : decode cX1_pairsBySeed 11 = .ok (.invokevirtual 26, 3) := by decide +kernel
theorem dX1_pairsBySeed_14 : decode cX1_pairsBySeed 14 = .ok (.iload_n 3, 1) := by decide +kernel
theorem dX1_pairsBySeed_15 : decode cX1_pairsBySeed 15 = .ok (.istore 5, 2) := by decide +kernel
theorem dX1_pairsBySeed_17 : decode cX1_pairsBySeed 17 = .ok (.iconst 0, 1) := by decide +kernel
theorem dX1_pairsBySeed_18 : decode cX1_pairsBySeed 18 = .ok (.istore 6, 2) := by decide +kernel
theorem dX1_pairsBySeed_20 : decode cX1_pairsBySeed 20 = .ok (.iload 6, 2) := by decide +kernel
theorem dX1_pairsBySeed_22 : decode cX1_pairsBySeed 22 = .ok (.iload_n 2, 1) := by decide +kernel
theorem dX1_pairsBySeed_23 : decode cX1_pairsBySeed 23 = .ok (.if_icmp .ge 57, 3) := by decide +kernel
theorem dX1_pairsBySeed_26 : decode cX1_pairsBySeed 26 = .ok (.iload 5, 2) := by decide +kernel
theorem dX1_pairsBySeed_28 : decode cX1_pairsBySeed 28 = .ok (.invokestatic 71, 3) := by decide +kernel
theorem dX1_pairsBySeed_31 : decode cX1_pairsBySeed 31 = .ok (.istore 5, 2) := by decide +kernel
theorem dX1_pairsBySeed_33 : decode cX1_pairsBySeed 33 = .ok (.aload 4, 2) := by decide +kernel
theorem dX1_pairsBySeed_35 : decode cX1_pairsBySeed 35 = .ok (.getfield 75, 3) := by decide +kernel
theorem dX1_pairsBySeed_38 : decode cX1_pairsBySeed 38 = .ok (.iload 5, 2) := by decide +kernel
theorem dX1_pairsBySeed_40 : decode cX1_pairsBySeed 40 = .ok (.invokestatic 76, 3) := by decide +kernel
theorem dX1_pairsBySeed_43 : decode cX1_pairsBySeed 43 = .ok (.istore 7, 2) := by decide +kernel
theorem dX1_pairsBySeed_45 : decode cX1_pairsBySeed 45 = .ok (.iload 5, 2) := by decide +kernel
theorem dX1_pairsBySeed_47 : decode cX1_pairsBySeed 47 = .ok (.invokestatic 71, 3) := by decide +kernel
theorem dX1_pairsBySeed_50 : decode cX1_pairsBySeed 50 = .ok (.istore 5, 2) := by decide +kernel
theorem dX1_pairsBySeed_52 : decode cX1_pairsBySeed 52 = .ok (.aload 4, 2) := by decide +kernel
theorem dX1_pairsBySeed_54 : decode cX1_pairsBySeed 54 = .ok (.getfield 75, 3) := by decide +kernel
theorem dX1_pairsBySeed_57 : decode cX1_pairsBySeed 57 = .ok (.iload 5, 2) := by decide +kernel
theorem dX1_pairsBySeed_59 : decode cX1_pairsBySeed 59 = .ok (.invokestatic 76, 3) := by decide +kernel
theorem dX1_pairsBySeed_62 : decode cX1_pairsBySeed 62 = .ok (.istore 8, 2) := by decide +kernel
theorem dX1_pairsBySeed_64 : decode cX1_pairsBySeed 64 = .ok (.aload 4, 2) := by decide +kernel
theorem dX1_pairsBySeed_66 : decode cX1_pairsBySeed 66 = .ok (.iload 7, 2) := by decide +kernel
theorem dX1_pairsBySeed_68 : decode cX1_pairsBySeed 68 = .ok (.iload 8, 2) := by decide +kernel
theorem dX1_pairsBySeed_70 : decode cX1_pairsBySeed 70 = .ok (.invokevirtual 30, 3) := by decide +kernel
theorem dX1_pairsBySeed_73 : decode cX1_pairsBySeed 73 = .ok (.pop, 1) := by decide +kernel
theorem dX1_pairsBySeed_74 : decode cX1_pairsBySeed 74 = .ok (.iinc 6 1, 3) := by decide +kernel
theorem dX1_pairsBySeed_77 : decode cX1_pairsBySeed 77 = .ok (.goto (-57), 3) := by decide +kernel
theorem dX1_pairsBySeed_80 : decode cX1_pairsBySeed 80 = .ok (.aload 4, 2) := by decide +kernel
theorem dX1_pairsBySeed_82 : decode cX1_pairsBySeed 82 = .ok (.invokevirtual 79, 3) := by decide +kernel
theorem dX1_pairsBySeed_85 : decode cX1_pairsBySeed 85 = .ok (.ireturn, 1) := by decide +kernel
theorem dX1_nextSeed_0 : decode cX1_nextSeed 0 = .ok (.iload_n 0, 1) := by decide +kernel
theorem dX1_nextSeed_1 : decode cX1_nextSeed 1 = .ok (.ldc 83, 2) := by decide +kernel
theorem dX1_nextSeed_3 : decode cX1_nextSeed 3 = .ok (.imul, 1) := by decide +kernel
theorem dX1_nextSeed_4 : decode cX1_nextSeed 4 = .ok (.sipush 12345, 3) := by decide +kernel
theorem dX1_nextSeed_7 : decode cX1_nextSeed 7 = .ok (.iadd, 1) := by decide +kernel
theorem dX1_nextSeed_8 : decode cX1_nextSeed 8 = .ok (.ireturn, 1) := by decide +kernel
theorem dX1_drawBelow_0 : decode cX1_drawBelow 0 = .ok (.iload_n 0, 1) := by decide +kernel
theorem dX1_drawBelow_1 : decode cX1_drawBelow 1 = .ok (.iconst 1, 1) := by decide +kernel
theorem dX1_drawBelow_2 : decode cX1_drawBelow 2 = .ok (.if_icmp .ge 7, 3) := by decide +kernel
theorem dX1_drawBelow_5 : decode cX1_drawBelow 5 = .ok (.iconst 0, 1) := by decide +kernel
theorem dX1_drawBelow_6 : decode cX1_drawBelow 6 = .ok (.goto 12, 3) := by decide +kernel
theorem dX1_drawBelow_9 : decode cX1_drawBelow 9 = .ok (.iload_n 1, 1) := by decide +kernel
theorem dX1_drawBelow_10 : decode cX1_drawBelow 10 = .ok (.ldc 84, 2) := by decide +kernel
theorem dX1_drawBelow_12 : decode cX1_drawBelow 12 = .ok (.iand, 1) := by decide +kernel
theorem dX1_drawBelow_13 : decode cX1_drawBelow 13 = .ok (.ldc 85, 2) := by decide +kernel
theorem dX1_drawBelow_15 : decode cX1_drawBelow 15 = .ok (.idiv, 1) := by decide +kernel
theorem dX1_drawBelow_16 : decode cX1_drawBelow 16 = .ok (.iload_n 0, 1) := by decide +kernel
theorem dX1_drawBelow_17 : decode cX1_drawBelow 17 = .ok (.irem, 1) := by decide +kernel
theorem dX1_drawBelow_18 : decode cX1_drawBelow 18 = .ok (.ireturn, 1) := by decide +kernel
theorem dX2_init_0 : decode cX2_init 0 = .ok (.aload_n 0, 1) := by decide +kernel
theorem dX2_init_1 : decode cX2_init 1 = .ok (.invokespecial 3, 3) := by decide +kernel
theorem dX2_init_4 : decode cX2_init 4 = .ok (.aload_n 0, 1) := by decide +kernel
theorem dX2_init_5 : decode cX2_init 5 = .ok (.iconst 0, 1) := by decide +kernel
theorem dX2_init_6 : decode cX2_init 6 = .ok (.putfield 9, 3) := by decide +kernel
theorem dX2_init_9 : decode cX2_init 9 = .ok (.aload_n 0, 1) := by decide +kernel
theorem dX2_init_10 : decode cX2_init 10 = .ok (.iconst 0, 1) := by decide +kernel
theorem dX2_init_11 : decode cX2_init 11 = .ok (.putfield 15, 3) := by decide +kernel
theorem dX2_init_14 : decode cX2_init 14 = .ok (.aload_n 0, 1) := by decide +kernel
theorem dX2_init_15 : decode cX2_init 15 = .ok (.bipush 8, 2) := by decide +kernel
theorem dX2_init_17 : decode cX2_init 17 = .ok (.newarray .int, 2) := by decide +kernel
theorem dX2_init_19 : decode cX2_init 19 = .ok (.putfield 18, 3) := by decide +kernel
theorem dX2_init_22 : decode cX2_init 22 = .ok (.aload_n 0, 1) := by decide +kernel
theorem dX2_init_23 : decode cX2_init 23 = .ok (.bipush 8, 2) := by decide +kernel
theorem dX2_init_25 : decode cX2_init 25 = .ok (.newarray .int, 2) := by decide +kernel
theorem dX2_init_27 : decode cX2_init 27 = .ok (.putfield 22, 3) := by decide +kernel
theorem dX2_init_30 : decode cX2_init 30 = .ok (.aload_n 0, 1) := by decide +kernel
theorem dX2_init_31 : decode cX2_init 31 = .ok (.bipush 8, 2) := by decide +kernel
theorem dX2_init_33 : decode cX2_init 33 = .ok (.newarray .int, 2) := by decide +kernel
theorem dX2_init_35 : decode cX2_init 35 = .ok (.putfield 25, 3) := by decide +kernel
theorem dX2_init_38 : decode cX2_init 38 = .ok (.aload_n 0, 1) := by decide +kernel
theorem dX2_init_39 : decode cX2_init 39 = .ok (.bipush 8, 2) := by decide +kernel
theorem dX2_init_41 : decode cX2_init 41 = .ok (.newarray .int, 2) := by decide +kernel
theorem dX2_init_43 : decode cX2_init 43 = .ok (.putfield 28, 3) := by decide +kernel
theorem dX2_init_46 : decode cX2_init 46 = .ok (.return_, 1) := by decide +kernel
theorem dX2_copyFrom_0 : decode cX2_copyFrom 0 = .ok (.aload_n 0, 1) := by decide +kernel
theorem dX2_copyFrom_1 : decode cX2_copyFrom 1 = .ok (.aload_n 1, 1) := by decide +kernel
theorem dX2_copyFrom_2 : decode cX2_copyFrom 2 = .ok (.getfield 9, 3) := by decide +kernel
theorem dX2_copyFrom_5 : decode cX2_copyFrom 5 = .ok (.putfield 9, 3) := by decide +kernel
theorem dX2_copyFrom_8 : decode cX2_copyFrom 8 = .ok (.aload_n 0, 1) := by decide +kernel
theorem dX2_copyFrom_9 : decode cX2_copyFrom 9 = .ok (.aload_n 1, 1) := by decide +kernel
theorem dX2_copyFrom_10 : decode cX2_copyFrom 10 = .ok (.getfield 15, 3) := by decide +kernel
theorem dX2_copyFrom_13 : decode cX2_copyFrom 13 = .ok (.putfield 15, 3) := by decide +kernel
theorem dX2_copyFrom_16 : decode cX2_copyFrom 16 = .ok (.iconst 0, 1) := by decide +kernel
theorem dX2_copyFrom_17 : decode cX2_copyFrom 17 = .ok (.istore_n 2, 1) := by decide +kernel
theorem dX2_copyFrom_18 : decode cX2_copyFrom 18 = .ok (.iload_n 2, 1) := by decide +kernel
theorem dX2_copyFrom_19 : decode cX2_copyFrom 19 = .ok (.bipush 8, 2) := by decide +kernel
theorem dX2_copyFrom_21 : decode cX2_copyFrom 21 = .ok (.if_icmp .ge 57, 3) := by decide +kernel
theorem dX2_copyFrom_24 : decode cX2_copyFrom 24 = .ok (.aload_n 0, 1) := by decide +kernel
theorem dX2_copyFrom_25 : decode cX2_copyFrom 25 = .ok (.getfield 18, 3) := by decide +kernel
theorem dX2_copyFrom_28 : decode cX2_copyFrom 28 = .ok (.iload_n 2, 1) := by decide +kernel
theorem dX2_copyFrom_29 : decode cX2_copyFrom 29 = .ok (.aload_n 1, 1) := by decide +kernel
theorem dX2_copyFrom_30 : decode cX2_copyFrom 30 = .ok (.getfield 18, 3) := by decide +kernel
theorem dX2_copyFrom_33 : decode cX2_copyFrom 33 = .ok (.iload_n 2, 1) := by decide +kernel
theorem dX2_copyFrom_34 : decode cX2_copyFrom 34 = .ok (.iaload, 1) := by decide +kernel
theorem dX2_copyFrom_35 : decode cX2_copyFrom 35 = .ok (.iastore, 1) := by decide +kernel
theorem dX2_copyFrom_36 : decode cX2_copyFrom 36 = .ok (.aload_n 0, 1) := by decide +kernel
theorem dX2_copyFrom_37 : decode cX2_copyFrom 37 = .ok (.getfield 22, 3) := by decide +kernel
theorem dX2_copyFrom_40 : decode cX2_copyFrom 40 = .ok (.iload_n 2, 1) := by decide +kernel
theorem dX2_copyFrom_41 : decode cX2_copyFrom 41 = .ok (.aload_n 1, 1) := by decide +kernel
theorem dX2_copyFrom_42 : decode cX2_copyFrom 42 = .ok (.getfield 22, 3) := by decide +kernel
theorem dX2_copyFrom_45 : decode cX2_copyFrom 45 = .ok (.iload_n 2, 1) := by decide +kernel
theorem dX2_copyFrom_46 : decode cX2_copyFrom 46 = .ok (.iaload, 1) := by decide +kernel
theorem dX2_copyFrom_47 : decode cX2_copyFrom 47 = .ok (.iastore, 1) := by decide +kernel
theorem dX2_copyFrom_48 : decode cX2_copyFrom 48 = .ok (.aload_n 0, 1) := by decide +kernel
theorem dX2_copyFrom_49 : decode cX2_copyFrom 49 = .ok (.getfield 25, 3) := by decide +kernel
theorem dX2_copyFrom_52 : decode cX2_copyFrom 52 = .ok (.iload_n 2, 1) := by decide +kernel
theorem dX2_copyFrom_53 : decode cX2_copyFrom 53 = .ok (.aload_n 1, 1) := by decide +kernel
theorem dX2_copyFrom_54 : decode cX2_copyFrom 54 = .ok (.getfield 25, 3) := by decide +kernel
theorem dX2_copyFrom_57 : decode cX2_copyFrom 57 = .ok (.iload_n 2, 1) := by decide +kernel
theorem dX2_copyFrom_58 : decode cX2_copyFrom 58 = .ok (.iaload, 1) := by decide +kernel
theorem dX2_copyFrom_59 : decode cX2_copyFrom 59 = .ok (.iastore, 1) := by decide +kernel
theorem dX2_copyFrom_60 : decode cX2_copyFrom 60 = .ok (.aload_n 0, 1) := by decide +kernel
theorem dX2_copyFrom_61 : decode cX2_copyFrom 61 = .ok (.getfield 28, 3) := by decide +kernel
theorem dX2_copyFrom_64 : decode cX2_copyFrom 64 = .ok (.iload_n 2, 1) := by decide +kernel
theorem dX2_copyFrom_65 : decode cX2_copyFrom 65 = .ok (.aload_n 1, 1) := by decide +kernel
theorem dX2_copyFrom_66 : decode cX2_copyFrom 66 = .ok (.getfield 28, 3) := by decide +kernel
theorem dX2_copyFrom_69 : decode cX2_copyFrom 69 = .ok (.iload_n 2, 1) := by decide +kernel
theorem dX2_copyFrom_70 : decode cX2_copyFrom 70 = .ok (.iaload, 1) := by decide +kernel
theorem dX2_copyFrom_71 : decode cX2_copyFrom 71 = .ok (.iastore, 1) := by decide +kernel
theorem dX2_copyFrom_72 : decode cX2_copyFrom 72 = .ok (.iinc 2 1, 3) := by decide +kernel
theorem dX2_copyFrom_75 : decode cX2_copyFrom 75 = .ok (.goto (-57), 3) := by decide +kernel
theorem dX2_copyFrom_78 : decode cX2_copyFrom 78 = .ok (.return_, 1) := by decide +kernel
theorem dX2_isThere_0 : decode cX2_isThere 0 = .ok (.iload_n 1, 1) := by decide +kernel
theorem dX2_isThere_1 : decode cX2_isThere 1 = .ok (.ifCond .lt 15, 3) := by decide +kernel
theorem dX2_isThere_4 : decode cX2_isThere 4 = .ok (.iload_n 1, 1) := by decide +kernel
theorem dX2_isThere_5 : decode cX2_isThere 5 = .ok (.aload_n 0, 1) := by decide +kernel
theorem dX2_isThere_6 : decode cX2_isThere 6 = .ok (.getfield 9, 3) := by decide +kernel
theorem dX2_isThere_9 : decode cX2_isThere 9 = .ok (.if_icmp .ge 7, 3) := by decide +kernel
theorem dX2_isThere_12 : decode cX2_isThere 12 = .ok (.iconst 1, 1) := by decide +kernel
theorem dX2_isThere_13 : decode cX2_isThere 13 = .ok (.goto 4, 3) := by decide +kernel
theorem dX2_isThere_16 : decode cX2_isThere 16 = .ok (.iconst 0, 1) := by decide +kernel
theorem dX2_isThere_17 : decode cX2_isThere 17 = .ok (.ireturn, 1) := by decide +kernel
set_option maxRecDepth 20000 in
theorem ggX2_areTwo_X2_isThere : GoodIn wsX2_areTwo wsX2_isThere := goodIn_r _ [5, 6, 7, 8, 9, 10, 11, 12] (by decide +kernel) (by decide +kernel)
set_option maxRecDepth 20000 in
theorem gX2_areTwo_X2_isThere : GoodIn wsX2_areTwo (wsV RX2 31 RX2 yX2_isThere wsX2_isThere) := goodIn_app (goodIn_of _ (by decide +kernel)) ggX2_areTwo_X2_isThere
theorem dX2_areTwo_0 : decode cX2_areTwo 0 = .ok (.aload_n 0, 1) := by decide +kernel
theorem dX2_areTwo_1 : decode cX2_areTwo 1 = .ok (.iload_n 1, 1) := by decide +kernel
theorem dX2_areTwo_2 : decode cX2_areTwo 2 = .ok (.invokevirtual 31, 3) := by decide +kernel
theorem dX2_areTwo_5 : decode cX2_areTwo 5 = .ok (.ifCond .eq 20, 3) := by decide +kernel
theorem dX2_areTwo_8 : decode cX2_areTwo 8 = .ok (.aload_n 0, 1) := by decide +kernel
theorem dX2_areTwo_9 : decode cX2_areTwo 9 = .ok (.iload_n 2, 1) := by decide +kernel
theorem dX2_areTwo_10 : decode cX2_areTwo 10 = .ok (.invokevirtual 31, 3) := by decide +kernel
theorem dX2_areTwo_13 : decode cX2_areTwo 13 = .ok (.ifCond .eq 12, 3) := by decide +kernel
theorem dX2_areTwo_16 : decode cX2_areTwo 16 = .ok (.iload_n 1, 1) := by decide +kernel
theorem dX2_areTwo_17 : decode cX2_areTwo 17 = .ok (.iload_n 2, 1) := by decide +kernel
theorem dX2_areTwo_18 : decode cX2_areTwo 18 = .ok (.if_icmp .eq 7, 3) := by decide +kernel
theorem dX2_areTwo_21 : decode cX2_areTwo 21 = .ok (.iconst 1, 1) := by decide +kernel
theorem dX2_areTwo_22 : decode cX2_areTwo 22 = .ok (.goto 4, 3) := by decide +kernel
theorem dX2_areTwo_25 : decode cX2_areTwo 25 = .ok (.iconst 0, 1) := by decide +kernel
theorem dX2_areTwo_26 : decode cX2_areTwo 26 = .ok (.ireturn, 1) := by decide +kernel
set_option maxRecDepth 20000 in
theorem ggX2_isPair_X6_lesserOf : GoodIn wsX2_isPair wsX6_lesserOf := goodIn_r _ [3] (by decide +kernel) (by decide +kernel)
set_option maxRecDepth 20000 in
theorem gX2_isPair_X6_lesserOf_n35 : GoodIn wsX2_isPair (wsX6_lesserOf) := ggX2_isPair_X6_lesserOf
set_option maxRecDepth 20000 in
theorem ggX2_isPair_X6_greaterOf : GoodIn wsX2_isPair wsX6_greaterOf := goodIn_r _ [5] (by decide +kernel) (by decide +kernel)
set_option maxRecDepth 20000 in
theorem gX2_isPair_X6_greaterOf_n39 : GoodIn wsX2_isPair (wsX6_greaterOf) := ggX2_isPair_X6_greaterOf
set_option maxRecDepth 20000 in
theorem ggX2_isPair_X2_areTwo : GoodIn wsX2_isPair wsX2_areTwo := goodIn_r _ [10, 11, 12, 13, 9, 14, 15, 16, 17, 18, 19, 20, 21] (by decide +kernel) (by decide +kernel)
set_option maxRecDepth 20000 in
theorem gX2_isPair_X2_areTwo : GoodIn wsX2_isPair (wsV RX2 42 RX2 yX2_areTwo wsX2_areTwo) := goodIn_app (goodIn_of _ (by decide +kernel)) ggX2_isPair_X2_areTwo
theorem dX2_isPair_0 : decode cX2_isPair 0 = .ok (.iload_n 1, 1) := by decide +kernel
theorem dX2_isPair_1 : decode cX2_isPair 1 = .ok (.invokestatic 35, 3) := by decide +kernel
theorem dX2_isPair_4 : decode cX2_isPair 4 = .ok (.istore_n 2, 1) := by decide +kernel
theorem dX2_isPair_5 : decode cX2_isPair 5 = .ok (.iload_n 1, 1) := by decide +kernel
theorem dX2_isPair_6 : decode cX2_isPair 6 = .ok (.invokestatic 39, 3) := by decide +kernel
theorem dX2_isPair_9 : decode cX2_isPair 9 = .ok (.istore_n 3, 1) := by decide +kernel
theorem dX2_isPair_10 : decode cX2_isPair 10 = .ok (.iload_n 2, 1) := by decide +kernel
theorem dX2_isPair_11 : decode cX2_isPair 11 = .ok (.iload_n 3, 1) := by decide +kernel
theorem dX2_isPair_12 : decode cX2_isPair 12 = .ok (.if_icmp .ge 16, 3) := by decide +kernel
theorem dX2_isPair_15 : decode cX2_isPair 15 = .ok (.aload_n 0, 1) := by decide +kernel
theorem dX2_isPair_16 : decode cX2_isPair 16 = .ok (.iload_n 2, 1) := by decide +kernel
theorem dX2_isPair_17 : decode cX2_isPair 17 = .ok (.iload_n 3, 1) := by decide +kernel
theorem dX2_isPair_18 : decode cX2_isPair 18 = .ok (.invokevirtual 42, 3) := by decide +kernel
theorem dX2_isPair_21 : decode cX2_isPair 21 = .ok (.ifCond .eq 7, 3) := by decide +kernel
theorem dX2_isPair_24 : decode cX2_isPair 24 = .ok (.iconst 1, 1) := by decide +kernel
theorem dX2_isPair_25 : decode cX2_isPair 25 = .ok (.goto 4, 3) := by decide +kernel
theorem dX2_isPair_28 : decode cX2_isPair 28 = .ok (.iconst 0, 1) := by decide +kernel
theorem dX2_isPair_29 : decode cX2_isPair 29 = .ok (.ireturn, 1) := by decide +kernel
set_option maxRecDepth 20000 in
theorem ggX2_haveDanced_X6_hasBit : GoodIn wsX2_haveDanced wsX6_hasBit := goodIn_r _ [4] (by decide +kernel) (by decide +kernel)
set_option maxRecDepth 20000 in
theorem gX2_haveDanced_X6_hasBit_n46 : GoodIn wsX2_haveDanced (wsX6_hasBit) := ggX2_haveDanced_X6_hasBit
theorem dX2_haveDanced_0 : decode cX2_haveDanced 0 = .ok (.aload_n 0, 1) := by decide +kernel
theorem dX2_haveDanced_1 : decode cX2_haveDanced 1 = .ok (.getfield 28, 3) := by decide +kernel
theorem dX2_haveDanced_4 : decode cX2_haveDanced 4 = .ok (.iload_n 1, 1) := by decide +kernel
theorem dX2_haveDanced_5 : decode cX2_haveDanced 5 = .ok (.iaload, 1) := by decide +kernel
theorem dX2_haveDanced_6 : decode cX2_haveDanced 6 = .ok (.iload_n 2, 1) := by decide +kernel
theorem dX2_haveDanced_7 : decode cX2_haveDanced 7 = .ok (.invokestatic 46, 3) := by decide +kernel
theorem dX2_haveDanced_10 : decode cX2_haveDanced 10 = .ok (.ireturn, 1) := by decide +kernel
set_option maxRecDepth 20000 in
theorem ggX2_isDancedPair_X2_isPair : GoodIn wsX2_isDancedPair wsX2_isPair := goodIn_r _ [5, 6, 7, 8, 9, 10, 11, 12, 13, 4, 14, 15, 16, 17, 18, 19, 27, 28, 29, 30, 31, 32] (by decide +kernel) (by decide +kernel)
set_option maxRecDepth 20000 in
theorem gX2_isDancedPair_X2_isPair : GoodIn wsX2_isDancedPair (wsV RX2 49 RX2 yX2_isPair wsX2_isPair) := goodIn_app (goodIn_of _ (by decide +kernel)) ggX2_isDancedPair_X2_isPair
set_option maxRecDepth 20000 in
theorem ggX2_isDancedPair_X6_lesserOf : GoodIn wsX2_isDancedPair wsX6_lesserOf := goodIn_r _ [8] (by decide +kernel) (by decide +kernel)
set_option maxRecDepth 20000 in
theorem gX2_isDancedPair_X6_lesserOf_n35 : GoodIn wsX2_isDancedPair (wsX6_lesserOf) := ggX2_isDancedPair_X6_lesserOf
set_option maxRecDepth 20000 in
theorem ggX2_isDancedPair_X6_greaterOf : GoodIn wsX2_isDancedPair wsX6_greaterOf := goodIn_r _ [10] (by decide +kernel) (by decide +kernel)
set_option maxRecDepth 20000 in
theorem gX2_isDancedPair_X6_greaterOf_n39 : GoodIn wsX2_isDancedPair (wsX6_greaterOf) := ggX2_isDancedPair_X6_greaterOf
set_option maxRecDepth 20000 in
theorem ggX2_isDancedPair_X2_haveDanced : GoodIn wsX2_isDancedPair wsX2_haveDanced := goodIn_r _ [23, 24, 25, 7, 26, 27, 28, 29, 30, 31, 32] (by decide +kernel) (by decide +kernel)
set_option maxRecDepth 20000 in
theorem gX2_isDancedPair_X2_haveDanced : GoodIn wsX2_isDancedPair (wsV RX2 52 RX2 yX2_haveDanced wsX2_haveDanced) := goodIn_app (goodIn_of _ (by decide +kernel)) ggX2_isDancedPair_X2_haveDanced
theorem dX2_isDancedPair_0 : decode cX2_isDancedPair 0 = .ok (.aload_n 0, 1) := by decide +kernel
theorem dX2_isDancedPair_1 : decode cX2_isDancedPair 1 = .ok (.iload_n 1, 1) := by decide +kernel
theorem dX2_isDancedPair_2 : decode cX2_isDancedPair 2 = .ok (.invokevirtual 49, 3) := by decide +kernel
theorem dX2_isDancedPair_5 : decode cX2_isDancedPair 5 = .ok (.ifCond .eq 22, 3) := by decide +kernel
theorem dX2_isDancedPair_8 : decode cX2_isDancedPair 8 = .ok (.aload_n 0, 1) := by decide +kernel
theorem dX2_isDancedPair_9 : decode cX2_isDancedPair 9 = .ok (.iload_n 1, 1) := by decide +kernel
theorem dX2_isDancedPair_10 : decode cX2_isDancedPair 10 = .ok (.invokestatic 35, 3) := by decide +kernel
theorem dX2_isDancedPair_13 : decode cX2_isDancedPair 13 = .ok (.iload_n 1, 1) := by decide +kernel
theorem dX2_isDancedPair_14 : decode cX2_isDancedPair 14 = .ok (.invokestatic 39, 3) := by decide +kernel
theorem dX2_isDancedPair_17 : decode cX2_isDancedPair 17 = .ok (.invokevirtual 52, 3) := by decide +kernel
theorem dX2_isDancedPair_20 : decode cX2_isDancedPair 20 = .ok (.ifCond .eq 7, 3) := by decide +kernel
theorem dX2_isDancedPair_23 : decode cX2_isDancedPair 23 = .ok (.iconst 1, 1) := by decide +kernel
theorem dX2_isDancedPair_24 : decode cX2_isDancedPair 24 = .ok (.goto 4, 3) := by decide +kernel
theorem dX2_isDancedPair_27 : decode cX2_isDancedPair 27 = .ok (.iconst 0, 1) := by decide +kernel
theorem dX2_isDancedPair_28 : decode cX2_isDancedPair 28 = .ok (.ireturn, 1) := by decide +kernel
set_option maxRecDepth 20000 in
theorem ggX2_isOpenPair_X2_isPair : GoodIn wsX2_isOpenPair wsX2_isPair := goodIn_r _ [5, 6, 7, 8, 9, 10, 11, 12, 13, 4, 14, 15, 16, 17, 18, 19, 27, 28, 29, 30, 31, 32] (by decide +kernel) (by decide +kernel)
set_option maxRecDepth 20000 in
theorem gX2_isOpenPair_X2_isPair : GoodIn wsX2_isOpenPair (wsV RX2 49 RX2 yX2_isPair wsX2_isPair) := goodIn_app (goodIn_of _ (by decide +kernel)) ggX2_isOpenPair_X2_isPair
set_option maxRecDepth 20000 in
theorem ggX2_isOpenPair_X6_lesserOf : GoodIn wsX2_isOpenPair wsX6_lesserOf := goodIn_r _ [8] (by decide +kernel) (by decide +kernel)
set_option maxRecDepth 20000 in
theorem gX2_isOpenPair_X6_lesserOf_n35 : GoodIn wsX2_isOpenPair (wsX6_lesserOf) := ggX2_isOpenPair_X6_lesserOf
set_option maxRecDepth 20000 in
theorem ggX2_isOpenPair_X6_greaterOf : GoodIn wsX2_isOpenPair wsX6_greaterOf := goodIn_r _ [10] (by decide +kernel) (by decide +kernel)
set_option maxRecDepth 20000 in
theorem gX2_isOpenPair_X6_greaterOf_n39 : GoodIn wsX2_isOpenPair (wsX6_greaterOf) := ggX2_isOpenPair_X6_greaterOf
set_option maxRecDepth 20000 in
theorem ggX2_isOpenPair_X2_haveDanced : GoodIn wsX2_isOpenPair wsX2_haveDanced := goodIn_r _ [23, 24, 25, 7, 26, 27, 28, 29, 30, 31, 32] (by decide +kernel) (by decide +kernel)
set_option maxRecDepth 20000 in
theorem gX2_isOpenPair_X2_haveDanced : GoodIn wsX2_isOpenPair (wsV RX2 52 RX2 yX2_haveDanced wsX2_haveDanced) := goodIn_app (goodIn_of _ (by decide +kernel)) ggX2_isOpenPair_X2_haveDanced
theorem dX2_isOpenPair_0 : decode cX2_isOpenPair 0 = .ok (.aload_n 0, 1) := by decide +kernel
theorem dX2_isOpenPair_1 : decode cX2_isOpenPair 1 = .ok (.iload_n 1, 1) := by decide +kernel
theorem dX2_isOpenPair_2 : decode cX2_isOpenPair 2 = .ok (.invokevirtual 49, 3) := by decide +kernel
theorem dX2_isOpenPair_5 : decode cX2_isOpenPair 5 = .ok (.ifCond .eq 22, 3) := by decide +kernel
theorem dX2_isOpenPair_8 : decode cX2_isOpenPair 8 = .ok (.aload_n 0, 1) := by decide +kernel
theorem dX2_isOpenPair_9 : decode cX2_isOpenPair 9 = .ok (.iload_n 1, 1) := by decide +kernel
theorem dX2_isOpenPair_10 : decode cX2_isOpenPair 10 = .ok (.invokestatic 35, 3) := by decide +kernel
theorem dX2_isOpenPair_13 : decode cX2_isOpenPair 13 = .ok (.iload_n 1, 1) := by decide +kernel
theorem dX2_isOpenPair_14 : decode cX2_isOpenPair 14 = .ok (.invokestatic 39, 3) := by decide +kernel
theorem dX2_isOpenPair_17 : decode cX2_isOpenPair 17 = .ok (.invokevirtual 52, 3) := by decide +kernel
theorem dX2_isOpenPair_20 : decode cX2_isOpenPair 20 = .ok (.ifCond .ne 7, 3) := by decide +kernel
theorem dX2_isOpenPair_23 : decode cX2_isOpenPair 23 = .ok (.iconst 1, 1) := by decide +kernel
theorem dX2_isOpenPair_24 : decode cX2_isOpenPair 24 = .ok (.goto 4, 3) := by decide +kernel
theorem dX2_isOpenPair_27 : decode cX2_isOpenPair 27 = .ok (.iconst 0, 1) := by decide +kernel
theorem dX2_isOpenPair_28 : decode cX2_isOpenPair 28 = .ok (.ireturn, 1) := by decide +kernel
theorem dX2_areCousinsOfOneFigure_0 : decode cX2_areCousinsOfOneFigure 0 = .ok (.aload_n 0, 1) := by decide +kernel
theorem dX2_areCousinsOfOneFigure_1 : decode cX2_areCousinsOfOneFigure 1 = .ok (.getfield 18, 3) := by decide +kernel
theorem dX2_areCousinsOfOneFigure_4 : decode cX2_areCousinsOfOneFigure 4 = .ok (.iload_n 1, 1) := by decide +kernel
theorem dX2_areCousinsOfOneFigure_5 : decode cX2_areCousinsOfOneFigure 5 = .ok (.iaload, 1) := by decide +kernel
theorem dX2_areCousinsOfOneFigure_6 : decode cX2_areCousinsOfOneFigure 6 = .ok (.iconst 3, 1) := by decide +kernel
theorem dX2_areCousinsOfOneFigure_7 : decode cX2_areCousinsOfOneFigure 7 = .ok (.if_icmp .ne 32, 3) := by decide +kernel
theorem dX2_areCousinsOfOneFigure_10 : decode cX2_areCousinsOfOneFigure 10 = .ok (.aload_n 0, 1) := by decide +kernel
theorem dX2_areCousinsOfOneFigure_11 : decode cX2_areCousinsOfOneFigure 11 = .ok (.getfield 18, 3) := by decide +kernel
theorem dX2_areCousinsOfOneFigure_14 : decode cX2_areCousinsOfOneFigure 14 = .ok (.iload_n 2, 1) := by decide +kernel
theorem dX2_areCousinsOfOneFigure_15 : decode cX2_areCousinsOfOneFigure 15 = .ok (.iaload, 1) := by decide +kernel
theorem dX2_areCousinsOfOneFigure_16 : decode cX2_areCousinsOfOneFigure 16 = .ok (.iconst 3, 1) := by decide +kernel
theorem dX2_areCousinsOfOneFigure_17 : decode cX2_areCousinsOfOneFigure 17 = .ok (.if_icmp .ne 22, 3) := by decide +kernel
theorem dX2_areCousinsOfOneFigure_20 : decode cX2_areCousinsOfOneFigure 20 = .ok (.aload_n 0, 1) := by decide +kernel
theorem dX2_areCousinsOfOneFigure_21 : decode cX2_areCousinsOfOneFigure 21 = .ok (.getfield 22, 3) := by decide +kernel
theorem dX2_areCousinsOfOneFigure_24 : decode cX2_areCousinsOfOneFigure 24 = .ok (.iload_n 1, 1) := by decide +kernel
theorem dX2_areCousinsOfOneFigure_25 : decode cX2_areCousinsOfOneFigure 25 = .ok (.iaload, 1) := by decide +kernel
theorem dX2_areCousinsOfOneFigure_26 : decode cX2_areCousinsOfOneFigure 26 = .ok (.aload_n 0, 1) := by decide +kernel
theorem dX2_areCousinsOfOneFigure_27 : decode cX2_areCousinsOfOneFigure 27 = .ok (.getfield 22, 3) := by decide +kernel
theorem dX2_areCousinsOfOneFigure_30 : decode cX2_areCousinsOfOneFigure 30 = .ok (.iload_n 2, 1) := by decide +kernel
theorem dX2_areCousinsOfOneFigure_31 : decode cX2_areCousinsOfOneFigure 31 = .ok (.iaload, 1) := by decide +kernel
theorem dX2_areCousinsOfOneFigure_32 : decode cX2_areCousinsOfOneFigure 32 = .ok (.if_icmp .ne 7, 3) := by decide +kernel
theorem dX2_areCousinsOfOneFigure_35 : decode cX2_areCousinsOfOneFigure 35 = .ok (.iconst 1, 1) := by decide +kernel
theorem dX2_areCousinsOfOneFigure_36 : decode cX2_areCousinsOfOneFigure 36 = .ok (.goto 4, 3) := by decide +kernel
theorem dX2_areCousinsOfOneFigure_39 : decode cX2_areCousinsOfOneFigure 39 = .ok (.iconst 0, 1) := by decide +kernel
theorem dX2_areCousinsOfOneFigure_40 : decode cX2_areCousinsOfOneFigure 40 = .ok (.ireturn, 1) := by decide +kernel
theorem dX2_admit_0 : decode cX2_admit 0 = .ok (.aload_n 0, 1) := by decide +kernel
theorem dX2_admit_1 : decode cX2_admit 1 = .ok (.getfield 9, 3) := by decide +kernel
theorem dX2_admit_4 : decode cX2_admit 4 = .ok (.bipush 8, 2) := by decide +kernel
theorem dX2_admit_6 : decode cX2_admit 6 = .ok (.if_icmp .ge 12, 3) := by decide +kernel
theorem dX2_admit_9 : decode cX2_admit 9 = .ok (.iload_n 1, 1) := by decide +kernel
theorem dX2_admit_10 : decode cX2_admit 10 = .ok (.ifCond .lt 8, 3) := by decide +kernel
theorem dX2_admit_13 : decode cX2_admit 13 = .ok (.iload_n 1, 1) := by decide +kernel
theorem dX2_admit_14 : decode cX2_admit 14 = .ok (.iconst 5, 1) := by decide +kernel
theorem dX2_admit_15 : decode cX2_admit 15 = .ok (.if_icmp .le 5, 3) := by decide +kernel
theorem dX2_admit_18 : decode cX2_admit 18 = .ok (.iconst 0, 1) := by decide +kernel
theorem dX2_admit_19 : decode cX2_admit 19 = .ok (.ireturn, 1) := by decide +kernel
theorem dX2_admit_20 : decode cX2_admit 20 = .ok (.aload_n 0, 1) := by decide +kernel
theorem dX2_admit_21 : decode cX2_admit 21 = .ok (.getfield 18, 3) := by decide +kernel
theorem dX2_admit_24 : decode cX2_admit 24 = .ok (.aload_n 0, 1) := by decide +kernel
theorem dX2_admit_25 : decode cX2_admit 25 = .ok (.getfield 9, 3) := by decide +kernel
theorem dX2_admit_28 : decode cX2_admit 28 = .ok (.iload_n 1, 1) := by decide +kernel
theorem dX2_admit_29 : decode cX2_admit 29 = .ok (.iastore, 1) := by decide +kernel
theorem dX2_admit_30 : decode cX2_admit 30 = .ok (.aload_n 0, 1) := by decide +kernel
theorem dX2_admit_31 : decode cX2_admit 31 = .ok (.getfield 22, 3) := by decide +kernel
theorem dX2_admit_34 : decode cX2_admit 34 = .ok (.aload_n 0, 1) := by decide +kernel
theorem dX2_admit_35 : decode cX2_admit 35 = .ok (.getfield 9, 3) := by decide +kernel
theorem dX2_admit_38 : decode cX2_admit 38 = .ok (.iload_n 2, 1) := by decide +kernel
theorem dX2_admit_39 : decode cX2_admit 39 = .ok (.iastore, 1) := by decide +kernel
theorem dX2_admit_40 : decode cX2_admit 40 = .ok (.aload_n 0, 1) := by decide +kernel
theorem dX2_admit_41 : decode cX2_admit 41 = .ok (.getfield 25, 3) := by decide +kernel
theorem dX2_admit_44 : decode cX2_admit 44 = .ok (.aload_n 0, 1) := by decide +kernel
theorem dX2_admit_45 : decode cX2_admit 45 = .ok (.getfield 9, 3) := by decide +kernel
theorem dX2_admit_48 : decode cX2_admit 48 = .ok (.iconst 0, 1) := by decide +kernel
theorem dX2_admit_49 : decode cX2_admit 49 = .ok (.iastore, 1) := by decide +kernel
theorem dX2_admit_50 : decode cX2_admit 50 = .ok (.aload_n 0, 1) := by decide +kernel
theorem dX2_admit_51 : decode cX2_admit 51 = .ok (.getfield 28, 3) := by decide +kernel
theorem dX2_admit_54 : decode cX2_admit 54 = .ok (.aload_n 0, 1) := by decide +kernel
theorem dX2_admit_55 : decode cX2_admit 55 = .ok (.getfield 9, 3) := by decide +kernel
theorem dX2_admit_58 : decode cX2_admit 58 = .ok (.iconst 0, 1) := by decide +kernel
theorem dX2_admit_59 : decode cX2_admit 59 = .ok (.iastore, 1) := by decide +kernel
theorem dX2_admit_60 : decode cX2_admit 60 = .ok (.aload_n 0, 1) := by decide +kernel
theorem dX2_admit_61 : decode cX2_admit 61 = .ok (.dup, 1) := by decide +kernel
theorem dX2_admit_62 : decode cX2_admit 62 = .ok (.getfield 9, 3) := by decide +kernel
theorem dX2_admit_65 : decode cX2_admit 65 = .ok (.iconst 1, 1) := by decide +kernel
theorem dX2_admit_66 : decode cX2_admit 66 = .ok (.iadd, 1) := by decide +kernel
theorem dX2_admit_67 : decode cX2_admit 67 = .ok (.putfield 9, 3) := by decide +kernel
theorem dX2_admit_70 : decode cX2_admit 70 = .ok (.iconst 1, 1) := by decide +kernel
theorem dX2_admit_71 : decode cX2_admit 71 = .ok (.ireturn, 1) := by decide +kernel
set_option maxRecDepth 20000 in
theorem ggX2_join_X2_areTwo : GoodIn wsX2_join wsX2_areTwo := goodIn_r _ [6, 7, 8, 9, 5, 10, 11, 12, 13, 14, 15, 16, 17] (by decide +kernel) (by decide +kernel)
set_option maxRecDepth 20000 in
theorem gX2_join_X2_areTwo : GoodIn wsX2_join (wsV RX2 42 RX2 yX2_areTwo wsX2_areTwo) := goodIn_app (goodIn_of _ (by decide +kernel)) ggX2_join_X2_areTwo
theorem dX2_join_0 : decode cX2_join 0 = .ok (.aload_n 0, 1) := by decide +kernel
theorem dX2_join_1 : decode cX2_join 1 = .ok (.iload_n 1, 1) := by decide +kernel
theorem dX2_join_2 : decode cX2_join 2 = .ok (.iload_n 2, 1) := by decide +kernel
theorem dX2_join_3 : decode cX2_join 3 = .ok (.invokevirtual 42, 3) := by decide +kernel
theorem dX2_join_6 : decode cX2_join 6 = .ok (.ifCond .ne 5, 3) := by decide +kernel
theorem dX2_join_9 : decode cX2_join 9 = .ok (.iconst 0, 1) := by decide +kernel
theorem dX2_join_10 : decode cX2_join 10 = .ok (.ireturn, 1) := by decide +kernel
theorem dX2_join_11 : decode cX2_join 11 = .ok (.aload_n 0, 1) := by decide +kernel
theorem dX2_join_12 : decode cX2_join 12 = .ok (.getfield 28, 3) := by decide +kernel
theorem dX2_join_15 : decode cX2_join 15 = .ok (.iload_n 1, 1) := by decide +kernel
theorem dX2_join_16 : decode cX2_join 16 = .ok (.dup2, 1) := by decide +kernel
theorem dX2_join_17 : decode cX2_join 17 = .ok (.iaload, 1) := by decide +kernel
theorem dX2_join_18 : decode cX2_join 18 = .ok (.iconst 1, 1) := by decide +kernel
theorem dX2_join_19 : decode cX2_join 19 = .ok (.iload_n 2, 1) := by decide +kernel
theorem dX2_join_20 : decode cX2_join 20 = .ok (.ishl, 1) := by decide +kernel
theorem dX2_join_21 : decode cX2_join 21 = .ok (.ior, 1) := by decide +kernel
theorem dX2_join_22 : decode cX2_join 22 = .ok (.iastore, 1) := by decide +kernel
theorem dX2_join_23 : decode cX2_join 23 = .ok (.aload_n 0, 1) := by decide +kernel
theorem dX2_join_24 : decode cX2_join 24 = .ok (.getfield 28, 3) := by decide +kernel
theorem dX2_join_27 : decode cX2_join 27 = .ok (.iload_n 2, 1) := by decide +kernel
theorem dX2_join_28 : decode cX2_join 28 = .ok (.dup2, 1) := by decide +kernel
theorem dX2_join_29 : decode cX2_join 29 = .ok (.iaload, 1) := by decide +kernel
theorem dX2_join_30 : decode cX2_join 30 = .ok (.iconst 1, 1) := by decide +kernel
theorem dX2_join_31 : decode cX2_join 31 = .ok (.iload_n 1, 1) := by decide +kernel
theorem dX2_join_32 : decode cX2_join 32 = .ok (.ishl, 1) := by decide +kernel
theorem dX2_join_33 : decode cX2_join 33 = .ok (.ior, 1) := by decide +kernel
theorem dX2_join_34 : decode cX2_join 34 = .ok (.iastore, 1) := by decide +kernel
theorem dX2_join_35 : decode cX2_join 35 = .ok (.iconst 1, 1) := by decide +kernel
theorem dX2_join_36 : decode cX2_join 36 = .ok (.ireturn, 1) := by decide +kernel
set_option maxRecDepth 20000 in
theorem ggX2_changeLaw_X6_isLaw : GoodIn wsX2_changeLaw wsX6_isLaw := goodIn_r _ [4] (by decide +kernel) (by decide +kernel)
set_option maxRecDepth 20000 in
theorem gX2_changeLaw_X6_isLaw_n55 : GoodIn wsX2_changeLaw (wsX6_isLaw) := ggX2_changeLaw_X6_isLaw
theorem dX2_changeLaw_0 : decode cX2_changeLaw 0 = .ok (.iload_n 1, 1) := by decide +kernel
theorem dX2_changeLaw_1 : decode cX2_changeLaw 1 = .ok (.invokestatic 55, 3) := by decide +kernel
theorem dX2_changeLaw_4 : decode cX2_changeLaw 4 = .ok (.ifCond .ne 5, 3) := by decide +kernel
theorem dX2_changeLaw_7 : decode cX2_changeLaw 7 = .ok (.iconst 0, 1) := by decide +kernel
theorem dX2_changeLaw_8 : decode cX2_changeLaw 8 = .ok (.ireturn, 1) := by decide +kernel
theorem dX2_changeLaw_9 : decode cX2_changeLaw 9 = .ok (.aload_n 0, 1) := by decide +kernel
theorem dX2_changeLaw_10 : decode cX2_changeLaw 10 = .ok (.iload_n 1, 1) := by decide +kernel
theorem dX2_changeLaw_11 : decode cX2_changeLaw 11 = .ok (.putfield 15, 3) := by decide +kernel
theorem dX2_changeLaw_14 : decode cX2_changeLaw 14 = .ok (.iconst 1, 1) := by decide +kernel
theorem dX2_changeLaw_15 : decode cX2_changeLaw 15 = .ok (.ireturn, 1) := by decide +kernel
set_option maxRecDepth 20000 in
theorem ggX2_whoBring_X6_hasBit : GoodIn wsX2_whoBring wsX6_hasBit := goodIn_r _ [10] (by decide +kernel) (by decide +kernel)
set_option maxRecDepth 20000 in
theorem gX2_whoBring_X6_hasBit_n46 : GoodIn wsX2_whoBring (wsX6_hasBit) := ggX2_whoBring_X6_hasBit
set_option maxRecDepth 20000 in
theorem ggX2_whoBring_X2_isWilling : GoodIn wsX2_whoBring wsX2_isWilling := goodIn_r _ [15, 16, 17, 18, 1, 19, 20, 14, 21, 22, 23, 24, 25, 26, 27, 28, 29, 30, 31, 32, 33, 34] (by decide +kernel) (by decide +kernel)
set_option maxRecDepth 20000 in
theorem gX2_whoBring_X2_isWilling : GoodIn wsX2_whoBring (wsV RX2 64 RX2 yX2_isWilling wsX2_isWilling) := goodIn_app (goodIn_of _ (by decide +kernel)) ggX2_whoBring_X2_isWilling
theorem dX2_whoBring_0 : decode cX2_whoBring 0 = .ok (.aload_n 0, 1) := by decide +kernel
theorem dX2_whoBring_1 : decode cX2_whoBring 1 = .ok (.getfield 28, 3) := by decide +kernel
theorem dX2_whoBring_4 : decode cX2_whoBring 4 = .ok (.iload_n 1, 1) := by decide +kernel
theorem dX2_whoBring_5 : decode cX2_whoBring 5 = .ok (.iaload, 1) := by decide +kernel
theorem dX2_whoBring_6 : decode cX2_whoBring 6 = .ok (.aload_n 0, 1) := by decide +kernel
theorem dX2_whoBring_7 : decode cX2_whoBring 7 = .ok (.getfield 28, 3) := by decide +kernel
theorem dX2_whoBring_10 : decode cX2_whoBring 10 = .ok (.iload_n 2, 1) := by decide +kernel
theorem dX2_whoBring_11 : decode cX2_whoBring 11 = .ok (.iaload, 1) := by decide +kernel
theorem dX2_whoBring_12 : decode cX2_whoBring 12 = .ok (.iand, 1) := by decide +kernel
theorem dX2_whoBring_13 : decode cX2_whoBring 13 = .ok (.istore_n 3, 1) := by decide +kernel
theorem dX2_whoBring_14 : decode cX2_whoBring 14 = .ok (.aload_n 0, 1) := by decide +kernel
theorem dX2_whoBring_15 : decode cX2_whoBring 15 = .ok (.getfield 15, 3) := by decide +kernel
theorem dX2_whoBring_18 : decode cX2_whoBring 18 = .ok (.iconst 2, 1) := by decide +kernel
theorem dX2_whoBring_19 : decode cX2_whoBring 19 = .ok (.if_icmp .ne 11, 3) := by decide +kernel
theorem dX2_whoBring_22 : decode cX2_whoBring 22 = .ok (.iload_n 1, 1) := by decide +kernel
theorem dX2_whoBring_23 : decode cX2_whoBring 23 = .ok (.iload_n 2, 1) := by decide +kernel
theorem dX2_whoBring_24 : decode cX2_whoBring 24 = .ok (.invokestatic 58, 3) := by decide +kernel
theorem dX2_whoBring_27 : decode cX2_whoBring 27 = .ok (.goto 7, 3) := by decide +kernel
theorem dX2_whoBring_30 : decode cX2_whoBring 30 = .ok (.aload_n 0, 1) := by decide +kernel
theorem dX2_whoBring_31 : decode cX2_whoBring 31 = .ok (.getfield 9, 3) := by decide +kernel
theorem dX2_whoBring_34 : decode cX2_whoBring 34 = .ok (.istore 4, 2) := by decide +kernel
theorem dX2_whoBring_36 : decode cX2_whoBring 36 = .ok (.iconst 0, 1) := by decide +kernel
theorem dX2_whoBring_37 : decode cX2_whoBring 37 = .ok (.istore 5, 2) := by decide +kernel
theorem dX2_whoBring_39 : decode cX2_whoBring 39 = .ok (.iconst 0, 1) := by decide +kernel
theorem dX2_whoBring_40 : decode cX2_whoBring 40 = .ok (.istore 6, 2) := by decide +kernel
theorem dX2_whoBring_42 : decode cX2_whoBring 42 = .ok (.iload 6, 2) := by decide +kernel
theorem dX2_whoBring_44 : decode cX2_whoBring 44 = .ok (.iload 4, 2) := by decide +kernel
theorem dX2_whoBring_46 : decode cX2_whoBring 46 = .ok (.if_icmp .ge 38, 3) := by decide +kernel
theorem dX2_whoBring_49 : decode cX2_whoBring 49 = .ok (.iload_n 3, 1) := by decide +kernel
theorem dX2_whoBring_50 : decode cX2_whoBring 50 = .ok (.iload 6, 2) := by decide +kernel
theorem dX2_whoBring_52 : decode cX2_whoBring 52 = .ok (.invokestatic 46, 3) := by decide +kernel
theorem dX2_whoBring_55 : decode cX2_whoBring 55 = .ok (.ifCond .eq 23, 3) := by decide +kernel
theorem dX2_whoBring_58 : decode cX2_whoBring 58 = .ok (.aload_n 0, 1) := by decide +kernel
theorem dX2_whoBring_59 : decode cX2_whoBring 59 = .ok (.iload 6, 2) := by decide +kernel
theorem dX2_whoBring_61 : decode cX2_whoBring 61 = .ok (.iload_n 1, 1) := by decide +kernel
theorem dX2_whoBring_62 : decode cX2_whoBring 62 = .ok (.iload_n 2, 1) := by decide +kernel
theorem dX2_whoBring_63 : decode cX2_whoBring 63 = .ok (.invokevirtual 64, 3) := by decide +kernel
theorem dX2_whoBring_66 : decode cX2_whoBring 66 = .ok (.ifCond .eq 12, 3) := by decide +kernel
theorem dX2_whoBring_69 : decode cX2_whoBring 69 = .ok (.iload 5, 2) := by decide +kernel
theorem dX2_whoBring_71 : decode cX2_whoBring 71 = .ok (.iconst 1, 1) := by decide +kernel
theorem dX2_whoBring_72 : decode cX2_whoBring 72 = .ok (.iload 6, 2) := by decide +kernel
theorem dX2_whoBring_74 : decode cX2_whoBring 74 = .ok (.ishl, 1) := by decide +kernel
theorem dX2_whoBring_75 : decode cX2_whoBring 75 = .ok (.ior, 1) := by decide +kernel
theorem dX2_whoBring_76 : decode cX2_whoBring 76 = .ok (.istore 5, 2) := by decide +kernel
theorem dX2_whoBring_78 : decode cX2_whoBring 78 = .ok (.iinc 6 1, 3) := by decide +kernel
theorem dX2_whoBring_81 : decode cX2_whoBring 81 = .ok (.goto (-39), 3) := by decide +kernel
theorem dX2_whoBring_84 : decode cX2_whoBring 84 = .ok (.iload 5, 2) := by decide +kernel
theorem dX2_whoBring_86 : decode cX2_whoBring 86 = .ok (.ireturn, 1) := by decide +kernel
set_option maxRecDepth 20000 in
theorem ggX2_isWilling_X2_isNextTo : GoodIn wsX2_isWilling wsX2_isNextTo := goodIn_r _ [8] (by decide +kernel) (by decide +kernel)
set_option maxRecDepth 20000 in
theorem gX2_isWilling_X2_isNextTo : GoodIn wsX2_isWilling (va_wsS RX2 68 yX2_isNextTo wsX2_isNextTo) := goodIn_app (goodIn_of _ (by decide +kernel)) ggX2_isWilling_X2_isNextTo
set_option maxRecDepth 20000 in
theorem ggX2_isWilling_J6_bitCount_0f7a4 : GoodIn wsX2_isWilling wsJ6_bitCount_0f7a4 := goodIn_r _ [12, 13, 14, 15] (by decide +kernel) (by decide +kernel)
set_option maxRecDepth 20000 in
theorem gX2_isWilling_J6_bitCount_0f7a4 : GoodIn wsX2_isWilling (va_wsS RX2 71 yJ6_bitCount_0f7a4 wsJ6_bitCount_0f7a4) := goodIn_app (goodIn_of _ (by decide +kernel)) ggX2_isWilling_J6_bitCount_0f7a4
theorem dX2_isWilling_0 : decode cX2_isWilling 0 = .ok (.aload_n 0, 1) := by decide +kernel
theorem dX2_isWilling_1 : decode cX2_isWilling 1 = .ok (.getfield 25, 3) := by decide +kernel
theorem dX2_isWilling_4 : decode cX2_isWilling 4 = .ok (.iload_n 1, 1) := by decide +kernel
theorem dX2_isWilling_5 : decode cX2_isWilling 5 = .ok (.iaload, 1) := by decide +kernel
theorem dX2_isWilling_6 : decode cX2_isWilling 6 = .ok (.aload_n 0, 1) := by decide +kernel
theorem dX2_isWilling_7 : decode cX2_isWilling 7 = .ok (.getfield 22, 3) := by decide +kernel
theorem dX2_isWilling_10 : decode cX2_isWilling 10 = .ok (.iload_n 1, 1) := by decide +kernel
theorem dX2_isWilling_11 : decode cX2_isWilling 11 = .ok (.iaload, 1) := by decide +kernel
theorem dX2_isWilling_12 : decode cX2_isWilling 12 = .ok (.if_icmp .ge 7, 3) := by decide +kernel
theorem dX2_isWilling_15 : decode cX2_isWilling 15 = .ok (.iconst 1, 1) := by decide +kernel
theorem dX2_isWilling_16 : decode cX2_isWilling 16 = .ok (.goto 4, 3) := by decide +kernel
theorem dX2_isWilling_19 : decode cX2_isWilling 19 = .ok (.iconst 0, 1) := by decide +kernel
theorem dX2_isWilling_20 : decode cX2_isWilling 20 = .ok (.istore 4, 2) := by decide +kernel
theorem dX2_isWilling_22 : decode cX2_isWilling 22 = .ok (.aload_n 0, 1) := by decide +kernel
theorem dX2_isWilling_23 : decode cX2_isWilling 23 = .ok (.getfield 22, 3) := by decide +kernel
theorem dX2_isWilling_26 : decode cX2_isWilling 26 = .ok (.iload_n 1, 1) := by decide +kernel
theorem dX2_isWilling_27 : decode cX2_isWilling 27 = .ok (.iaload, 1) := by decide +kernel
theorem dX2_isWilling_28 : decode cX2_isWilling 28 = .ok (.iload_n 2, 1) := by decide +kernel
theorem dX2_isWilling_29 : decode cX2_isWilling 29 = .ok (.if_icmp .eq 17, 3) := by decide +kernel
theorem dX2_isWilling_32 : decode cX2_isWilling 32 = .ok (.aload_n 0, 1) := by decide +kernel
theorem dX2_isWilling_33 : decode cX2_isWilling 33 = .ok (.getfield 22, 3) := by decide +kernel
theorem dX2_isWilling_36 : decode cX2_isWilling 36 = .ok (.iload_n 1, 1) := by decide +kernel
theorem dX2_isWilling_37 : decode cX2_isWilling 37 = .ok (.iaload, 1) := by decide +kernel
theorem dX2_isWilling_38 : decode cX2_isWilling 38 = .ok (.iload_n 3, 1) := by decide +kernel
theorem dX2_isWilling_39 : decode cX2_isWilling 39 = .ok (.if_icmp .eq 7, 3) := by decide +kernel
theorem dX2_isWilling_42 : decode cX2_isWilling 42 = .ok (.iconst 1, 1) := by decide +kernel
theorem dX2_isWilling_43 : decode cX2_isWilling 43 = .ok (.goto 4, 3) := by decide +kernel
theorem dX2_isWilling_46 : decode cX2_isWilling 46 = .ok (.iconst 0, 1) := by decide +kernel
theorem dX2_isWilling_47 : decode cX2_isWilling 47 = .ok (.istore 5, 2) := by decide +kernel
theorem dX2_isWilling_49 : decode cX2_isWilling 49 = .ok (.aload_n 0, 1) := by decide +kernel
theorem dX2_isWilling_50 : decode cX2_isWilling 50 = .ok (.getfield 18, 3) := by decide +kernel
theorem dX2_isWilling_53 : decode cX2_isWilling 53 = .ok (.iload_n 1, 1) := by decide +kernel
theorem dX2_isWilling_54 : decode cX2_isWilling 54 = .ok (.iaload, 1) := by decide +kernel
theorem dX2_isWilling_55 : decode cX2_isWilling 55 = .ok (.tableswitch 90 1 5 #[33, 36, 90, 39, 66], 33) := by decide +kernel
theorem dX2_isWilling_88 : decode cX2_isWilling 88 = .ok (.iload 4, 2) := by decide +kernel
theorem dX2_isWilling_90 : decode cX2_isWilling 90 = .ok (.ireturn, 1) := by decide +kernel
theorem dX2_isWilling_91 : decode cX2_isWilling 91 = .ok (.iload 5, 2) := by decide +kernel
theorem dX2_isWilling_93 : decode cX2_isWilling 93 = .ok (.ireturn, 1) := by decide +kernel
theorem dX2_isWilling_94 : decode cX2_isWilling 94 = .ok (.iload 4, 2) := by decide +kernel
theorem dX2_isWilling_96 : decode cX2_isWilling 96 = .ok (.ifCond .eq 23, 3) := by decide +kernel
theorem dX2_isWilling_99 : decode cX2_isWilling 99 = .ok (.iload_n 1, 1) := by decide +kernel
theorem dX2_isWilling_100 : decode cX2_isWilling 100 = .ok (.iload_n 2, 1) := by decide +kernel
theorem dX2_isWilling_101 : decode cX2_isWilling 101 = .ok (.invokestatic 68, 3) := by decide +kernel
theorem dX2_isWilling_104 : decode cX2_isWilling 104 = .ok (.ifCond .ne 11, 3) := by decide +kernel
theorem dX2_isWilling_107 : decode cX2_isWilling 107 = .ok (.iload_n 1, 1) := by decide +kernel
theorem dX2_isWilling_108 : decode cX2_isWilling 108 = .ok (.iload_n 3, 1) := by decide +kernel
theorem dX2_isWilling_109 : decode cX2_isWilling 109 = .ok (.invokestatic 68, 3) := by decide +kernel
theorem dX2_isWilling_112 : decode cX2_isWilling 112 = .ok (.ifCond .eq 7, 3) := by decide +kernel
theorem dX2_isWilling_115 : decode cX2_isWilling 115 = .ok (.iconst 1, 1) := by decide +kernel
theorem dX2_isWilling_116 : decode cX2_isWilling 116 = .ok (.goto 4, 3) := by decide +kernel
theorem dX2_isWilling_119 : decode cX2_isWilling 119 = .ok (.iconst 0, 1) := by decide +kernel
theorem dX2_isWilling_120 : decode cX2_isWilling 120 = .ok (.ireturn, 1) := by decide +kernel
theorem dX2_isWilling_121 : decode cX2_isWilling 121 = .ok (.iload 5, 2) := by decide +kernel
theorem dX2_isWilling_123 : decode cX2_isWilling 123 = .ok (.ifCond .eq 20, 3) := by decide +kernel
theorem dX2_isWilling_126 : decode cX2_isWilling 126 = .ok (.aload_n 0, 1) := by decide +kernel
theorem dX2_isWilling_127 : decode cX2_isWilling 127 = .ok (.getfield 28, 3) := by decide +kernel
theorem dX2_isWilling_130 : decode cX2_isWilling 130 = .ok (.iload_n 1, 1) := by decide +kernel
theorem dX2_isWilling_131 : decode cX2_isWilling 131 = .ok (.iaload, 1) := by decide +kernel
theorem dX2_isWilling_132 : decode cX2_isWilling 132 = .ok (.invokestatic 71, 3) := by decide +kernel
theorem dX2_isWilling_135 : decode cX2_isWilling 135 = .ok (.iconst 3, 1) := by decide +kernel
theorem dX2_isWilling_136 : decode cX2_isWilling 136 = .ok (.if_icmp .lt 7, 3) := by decide +kernel
theorem dX2_isWilling_139 : decode cX2_isWilling 139 = .ok (.iconst 1, 1) := by decide +kernel
theorem dX2_isWilling_140 : decode cX2_isWilling 140 = .ok (.goto 4, 3) := by decide +kernel
theorem dX2_isWilling_143 : decode cX2_isWilling 143 = .ok (.iconst 0, 1) := by decide +kernel
theorem dX2_isWilling_144 : decode cX2_isWilling 144 = .ok (.ireturn, 1) := by decide +kernel
theorem dX2_isWilling_145 : decode cX2_isWilling 145 = .ok (.iconst 1, 1) := by decide +kernel
theorem dX2_isWilling_146 : decode cX2_isWilling 146 = .ok (.ireturn, 1) := by decide +kernel
theorem dX2_isNextTo_0 : decode cX2_isNextTo 0 = .ok (.iload_n 0, 1) := by decide +kernel
theorem dX2_isNextTo_1 : decode cX2_isNextTo 1 = .ok (.iload_n 1, 1) := by decide +kernel
theorem dX2_isNextTo_2 : decode cX2_isNextTo 2 = .ok (.isub, 1) := by decide +kernel
theorem dX2_isNextTo_3 : decode cX2_isNextTo 3 = .ok (.iconst 1, 1) := by decide +kernel
theorem dX2_isNextTo_4 : decode cX2_isNextTo 4 = .ok (.if_icmp .eq 10, 3) := by decide +kernel
theorem dX2_isNextTo_7 : decode cX2_isNextTo 7 = .ok (.iload_n 1, 1) := by decide +kernel
theorem dX2_isNextTo_8 : decode cX2_isNextTo 8 = .ok (.iload_n 0, 1) := by decide +kernel
theorem dX2_isNextTo_9 : decode cX2_isNextTo 9 = .ok (.isub, 1) := by decide +kernel
theorem dX2_isNextTo_10 : decode cX2_isNextTo 10 = .ok (.iconst 1, 1) := by decide +kernel
theorem dX2_isNextTo_11 : decode cX2_isNextTo 11 = .ok (.if_icmp .ne 7, 3) := by decide +kernel
theorem dX2_isNextTo_14 : decode cX2_isNextTo 14 = .ok (.iconst 1, 1) := by decide +kernel
theorem dX2_isNextTo_15 : decode cX2_isNextTo 15 = .ok (.goto 4, 3) := by decide +kernel
theorem dX2_isNextTo_18 : decode cX2_isNextTo 18 = .ok (.iconst 0, 1) := by decide +kernel
theorem dX2_isNextTo_19 : decode cX2_isNextTo 19 = .ok (.ireturn, 1) := by decide +kernel
set_option maxRecDepth 20000 in
theorem ggX2_waysToDance_X2_haveDanced : GoodIn wsX2_waysToDance wsX2_haveDanced := goodIn_r _ [6, 7, 8, 9, 10, 41, 42, 43, 44, 45, 46] (by decide +kernel) (by decide +kernel)
set_option maxRecDepth 20000 in
theorem gX2_waysToDance_X2_haveDanced : GoodIn wsX2_waysToDance (wsV RX2 52 RX2 yX2_haveDanced wsX2_haveDanced) := goodIn_app (goodIn_of _ (by decide +kernel)) ggX2_waysToDance_X2_haveDanced
set_option maxRecDepth 20000 in
theorem ggX2_waysToDance_X2_whoBring : GoodIn wsX2_waysToDance wsX2_whoBring := goodIn_r _ [14, 7, 1, 15, 16, 17, 18, 19, 8, 9, 10, 20, 21, 22, 5, 23, 24, 25, 26, 27, 28, 29, 30, 31, 32, 33, 34, 35, 36, 41, 42, 43, 44, 45, 46] (by decide +kernel) (by decide +kernel)
set_option maxRecDepth 20000 in
theorem gX2_waysToDance_X2_whoBring : GoodIn wsX2_waysToDance (wsV RX2 76 RX2 yX2_whoBring wsX2_whoBring) := goodIn_app (goodIn_of _ (by decide +kernel)) ggX2_waysToDance_X2_whoBring
set_option maxRecDepth 20000 in
theorem ggX2_waysToDance_X2_areCousinsOfOneFigure : GoodIn wsX2_waysToDance wsX2_areCousinsOfOneFigure := goodIn_r _ [40, 26, 25, 41, 42, 43, 44, 45, 46] (by decide +kernel) (by decide +kernel)
set_option maxRecDepth 20000 in
theorem gX2_waysToDance_X2_areCousinsOfOneFigure : GoodIn wsX2_waysToDance (wsV RX2 79 RX2 yX2_areCousinsOfOneFigure wsX2_areCousinsOfOneFigure) := goodIn_app (goodIn_of _ (by decide +kernel)) ggX2_waysToDance_X2_areCousinsOfOneFigure
set_option maxRecDepth 20000 in
theorem ggX2_waysToDance_J6_bitCount_0f7a4 : GoodIn wsX2_waysToDance wsJ6_bitCount_0f7a4 := goodIn_r _ [33, 34, 35, 36] (by decide +kernel) (by decide +kernel)
set_option maxRecDepth 20000 in
theorem gX2_waysToDance_J6_bitCount_0f7a4 : GoodIn wsX2_waysToDance (va_wsS RX2 71 yJ6_bitCount_0f7a4 wsJ6_bitCount_0f7a4) := goodIn_app (goodIn_of _ (by decide +kernel)) ggX2_waysToDance_J6_bitCount_0f7a4
theorem dX2_waysToDance_0 : decode cX2_waysToDance 0 = .ok (.aload_n 0, 1) := by decide +kernel
theorem dX2_waysToDance_1 : decode cX2_waysToDance 1 = .ok (.iload_n 1, 1) := by decide +kernel
theorem dX2_waysToDance_2 : decode cX2_waysToDance 2 = .ok (.iload_n 2, 1) := by decide +kernel
theorem dX2_waysToDance_3 : decode cX2_waysToDance 3 = .ok (.invokevirtual 52, 3) := by decide +kernel
theorem dX2_waysToDance_6 : decode cX2_waysToDance 6 = .ok (.ifCond .eq 5, 3) := by decide +kernel
theorem dX2_waysToDance_9 : decode cX2_waysToDance 9 = .ok (.iconst 0, 1) := by decide +kernel
theorem dX2_waysToDance_10 : decode cX2_waysToDance 10 = .ok (.ireturn, 1) := by decide +kernel
theorem dX2_waysToDance_11 : decode cX2_waysToDance 11 = .ok (.aload_n 0, 1) := by decide +kernel
theorem dX2_waysToDance_12 : decode cX2_waysToDance 12 = .ok (.iload_n 1, 1) := by decide +kernel
theorem dX2_waysToDance_13 : decode cX2_waysToDance 13 = .ok (.iload_n 2, 1) := by decide +kernel
theorem dX2_waysToDance_14 : decode cX2_waysToDance 14 = .ok (.invokevirtual 76, 3) := by decide +kernel
theorem dX2_waysToDance_17 : decode cX2_waysToDance 17 = .ok (.istore_n 3, 1) := by decide +kernel
theorem dX2_waysToDance_18 : decode cX2_waysToDance 18 = .ok (.aload_n 0, 1) := by decide +kernel
theorem dX2_waysToDance_19 : decode cX2_waysToDance 19 = .ok (.iload_n 1, 1) := by decide +kernel
theorem dX2_waysToDance_20 : decode cX2_waysToDance 20 = .ok (.iload_n 2, 1) := by decide +kernel
theorem dX2_waysToDance_21 : decode cX2_waysToDance 21 = .ok (.invokevirtual 79, 3) := by decide +kernel
theorem dX2_waysToDance_24 : decode cX2_waysToDance 24 = .ok (.ifCond .eq 9, 3) := by decide +kernel
theorem dX2_waysToDance_27 : decode cX2_waysToDance 27 = .ok (.iload_n 3, 1) := by decide +kernel
theorem dX2_waysToDance_28 : decode cX2_waysToDance 28 = .ok (.sipush 512, 3) := by decide +kernel
theorem dX2_waysToDance_31 : decode cX2_waysToDance 31 = .ok (.ior, 1) := by decide +kernel
theorem dX2_waysToDance_32 : decode cX2_waysToDance 32 = .ok (.ireturn, 1) := by decide +kernel
theorem dX2_waysToDance_33 : decode cX2_waysToDance 33 = .ok (.aload_n 0, 1) := by decide +kernel
theorem dX2_waysToDance_34 : decode cX2_waysToDance 34 = .ok (.getfield 15, 3) := by decide +kernel
theorem dX2_waysToDance_37 : decode cX2_waysToDance 37 = .ok (.iconst 1, 1) := by decide +kernel
theorem dX2_waysToDance_38 : decode cX2_waysToDance 38 = .ok (.if_icmp .ne 7, 3) := by decide +kernel
theorem dX2_waysToDance_41 : decode cX2_waysToDance 41 = .ok (.iconst 2, 1) := by decide +kernel
theorem dX2_waysToDance_42 : decode cX2_waysToDance 42 = .ok (.goto 4, 3) := by decide +kernel
theorem dX2_waysToDance_45 : decode cX2_waysToDance 45 = .ok (.iconst 1, 1) := by decide +kernel
theorem dX2_waysToDance_46 : decode cX2_waysToDance 46 = .ok (.istore 4, 2) := by decide +kernel
theorem dX2_waysToDance_48 : decode cX2_waysToDance 48 = .ok (.iload_n 3, 1) := by decide +kernel
theorem dX2_waysToDance_49 : decode cX2_waysToDance 49 = .ok (.invokestatic 71, 3) := by decide +kernel
theorem dX2_waysToDance_52 : decode cX2_waysToDance 52 = .ok (.iload 4, 2) := by decide +kernel
theorem dX2_waysToDance_54 : decode cX2_waysToDance 54 = .ok (.if_icmp .lt 7, 3) := by decide +kernel
theorem dX2_waysToDance_57 : decode cX2_waysToDance 57 = .ok (.iload_n 3, 1) := by decide +kernel
theorem dX2_waysToDance_58 : decode cX2_waysToDance 58 = .ok (.goto 4, 3) := by decide +kernel
theorem dX2_waysToDance_61 : decode cX2_waysToDance 61 = .ok (.iconst 0, 1) := by decide +kernel
theorem dX2_waysToDance_62 : decode cX2_waysToDance 62 = .ok (.ireturn, 1) := by decide +kernel
set_option maxRecDepth 20000 in
theorem ggX2_isAllowed_X2_waysToDance : GoodIn wsX2_isAllowed wsX2_waysToDance := goodIn_r _ [5, 6, 7, 8, 9, 4, 10, 11, 12, 13, 14, 15, 16, 17, 18, 19, 20, 21, 22, 23, 24, 25, 26, 27, 28, 29, 30, 31, 32, 33, 34, 35, 36, 37, 38, 39, 40, 41, 42, 43, 44, 45, 46, 47, 48, 49, 50] (by decide +kernel) (by decide +kernel)
set_option maxRecDepth 20000 in
theorem gX2_isAllowed_X2_waysToDance : GoodIn wsX2_isAllowed (wsV RX2 82 RX2 yX2_waysToDance wsX2_waysToDance) := goodIn_app (goodIn_of _ (by decide +kernel)) ggX2_isAllowed_X2_waysToDance
theorem dX2_isAllowed_0 : decode cX2_isAllowed 0 = .ok (.aload_n 0, 1) := by decide +kernel
theorem dX2_isAllowed_1 : decode cX2_isAllowed 1 = .ok (.iload_n 1, 1) := by decide +kernel
theorem dX2_isAllowed_2 : decode cX2_isAllowed 2 = .ok (.iload_n 2, 1) := by decide +kernel
theorem dX2_isAllowed_3 : decode cX2_isAllowed 3 = .ok (.invokevirtual 82, 3) := by decide +kernel
theorem dX2_isAllowed_6 : decode cX2_isAllowed 6 = .ok (.ifCond .eq 7, 3) := by decide +kernel
theorem dX2_isAllowed_9 : decode cX2_isAllowed 9 = .ok (.iconst 1, 1) := by decide +kernel
theorem dX2_isAllowed_10 : decode cX2_isAllowed 10 = .ok (.goto 4, 3) := by decide +kernel
theorem dX2_isAllowed_13 : decode cX2_isAllowed 13 = .ok (.iconst 0, 1) := by decide +kernel
theorem dX2_isAllowed_14 : decode cX2_isAllowed 14 = .ok (.ireturn, 1) := by decide +kernel
set_option maxRecDepth 20000 in
theorem ggX2_isAllowedBy_X2_waysToDance : GoodIn wsX2_isAllowedBy wsX2_waysToDance := goodIn_r _ [5, 6, 7, 8, 9, 4, 10, 11, 12, 13, 14, 15, 16, 17, 18, 19, 20, 21, 22, 23, 24, 25, 26, 27, 28, 29, 30, 31, 32, 33, 34, 35, 36, 37, 38, 39, 40, 41, 42, 43, 44, 45, 46, 47, 48, 49, 50] (by decide +kernel) (by decide +kernel)
set_option maxRecDepth 20000 in
theorem gX2_isAllowedBy_X2_waysToDance : GoodIn wsX2_isAllowedBy (wsV RX2 82 RX2 yX2_waysToDance wsX2_waysToDance) := goodIn_app (goodIn_of _ (by decide +kernel)) ggX2_isAllowedBy_X2_waysToDance
set_option maxRecDepth 20000 in
theorem ggX2_isAllowedBy_X6_hasBit : GoodIn wsX2_isAllowedBy wsX6_hasBit := goodIn_r _ [14] (by decide +kernel) (by decide +kernel)
set_option maxRecDepth 20000 in
theorem gX2_isAllowedBy_X6_hasBit_n46 : GoodIn wsX2_isAllowedBy (wsX6_hasBit) := ggX2_isAllowedBy_X6_hasBit
theorem dX2_isAllowedBy_0 : decode cX2_isAllowedBy 0 = .ok (.iload_n 3, 1) := by decide +kernel
theorem dX2_isAllowedBy_1 : decode cX2_isAllowedBy 1 = .ok (.ifCond .lt 26, 3) := by decide +kernel
theorem dX2_isAllowedBy_4 : decode cX2_isAllowedBy 4 = .ok (.iload_n 3, 1) := by decide +kernel
theorem dX2_isAllowedBy_5 : decode cX2_isAllowedBy 5 = .ok (.bipush 9, 2) := by decide +kernel
theorem dX2_isAllowedBy_7 : decode cX2_isAllowedBy 7 = .ok (.if_icmp .gt 20, 3) := by decide +kernel
theorem dX2_isAllowedBy_10 : decode cX2_isAllowedBy 10 = .ok (.aload_n 0, 1) := by decide +kernel
theorem dX2_isAllowedBy_11 : decode cX2_isAllowedBy 11 = .ok (.iload_n 1, 1) := by decide +kernel
theorem dX2_isAllowedBy_12 : decode cX2_isAllowedBy 12 = .ok (.iload_n 2, 1) := by decide +kernel
theorem dX2_isAllowedBy_13 : decode cX2_isAllowedBy 13 = .ok (.invokevirtual 82, 3) := by decide +kernel
theorem dX2_isAllowedBy_16 : decode cX2_isAllowedBy 16 = .ok (.iload_n 3, 1) := by decide +kernel
theorem dX2_isAllowedBy_17 : decode cX2_isAllowedBy 17 = .ok (.invokestatic 46, 3) := by decide +kernel
theorem dX2_isAllowedBy_20 : decode cX2_isAllowedBy 20 = .ok (.ifCond .eq 7, 3) := by decide +kernel
theorem dX2_isAllowedBy_23 : decode cX2_isAllowedBy 23 = .ok (.iconst 1, 1) := by decide +kernel
theorem dX2_isAllowedBy_24 : decode cX2_isAllowedBy 24 = .ok (.goto 4, 3) := by decide +kernel
theorem dX2_isAllowedBy_27 : decode cX2_isAllowedBy 27 = .ok (.iconst 0, 1) := by decide +kernel
theorem dX2_isAllowedBy_28 : decode cX2_isAllowedBy 28 = .ok (.ireturn, 1) := by decide +kernel
set_option maxRecDepth 20000 in
theorem ggX2_step_X2_isThere : GoodIn wsX2_step wsX2_isThere := goodIn_r _ [7, 8, 48, 49, 50, 51, 52, 53] (by decide +kernel) (by decide +kernel)
set_option maxRecDepth 20000 in
theorem gX2_step_X2_isThere : GoodIn wsX2_step (wsV RX2 31 RX2 yX2_isThere wsX2_isThere) := goodIn_app (goodIn_of _ (by decide +kernel)) ggX2_step_X2_isThere
set_option maxRecDepth 20000 in
theorem ggX2_step_X2_whoBring : GoodIn wsX2_step wsX2_whoBring := goodIn_r _ [12, 13, 1, 14, 15, 16, 17, 8, 18, 19, 20, 21, 22, 23, 6, 24, 2, 25, 26, 27, 28, 29, 30, 31, 32, 33, 34, 35, 36, 48, 49, 50, 51, 52, 53] (by decide +kernel) (by decide +kernel)
set_option maxRecDepth 20000 in
theorem gX2_step_X2_whoBring : GoodIn wsX2_step (wsV RX2 76 RX2 yX2_whoBring wsX2_whoBring) := goodIn_app (goodIn_of _ (by decide +kernel)) ggX2_step_X2_whoBring
set_option maxRecDepth 20000 in
theorem ggX2_step_X6_leastOf : GoodIn wsX2_step wsX6_leastOf := goodIn_r _ [38, 39, 18, 19, 20] (by decide +kernel) (by decide +kernel)
set_option maxRecDepth 20000 in
theorem gX2_step_X6_leastOf_n85 : GoodIn wsX2_step (wsX6_leastOf) := ggX2_step_X6_leastOf
set_option maxRecDepth 20000 in
theorem ggX2_step_X2_join : GoodIn wsX2_step wsX2_join := goodIn_r _ [43, 13, 44, 45, 46, 6, 47, 3, 4, 5, 7, 8, 48, 49, 50, 51, 52, 53] (by decide +kernel) (by decide +kernel)
set_option maxRecDepth 20000 in
theorem gX2_step_X2_join : GoodIn wsX2_step (wsV RX2 88 RX2 yX2_join wsX2_join) := goodIn_app (goodIn_of _ (by decide +kernel)) ggX2_step_X2_join
theorem dX2_step_0 : decode cX2_step 0 = .ok (.aload_n 0, 1) := by decide +kernel
theorem dX2_step_1 : decode cX2_step 1 = .ok (.iload_n 3, 1) := by decide +kernel
theorem dX2_step_2 : decode cX2_step 2 = .ok (.invokevirtual 31, 3) := by decide +kernel
theorem dX2_step_5 : decode cX2_step 5 = .ok (.ifCond .eq 63, 3) := by decide +kernel
theorem dX2_step_8 : decode cX2_step 8 = .ok (.aload_n 0, 1) := by decide +kernel
theorem dX2_step_9 : decode cX2_step 9 = .ok (.getfield 15, 3) := by decide +kernel
theorem dX2_step_12 : decode cX2_step 12 = .ok (.iconst 1, 1) := by decide +kernel
theorem dX2_step_13 : decode cX2_step 13 = .ok (.if_icmp .ne 21, 3) := by decide +kernel
theorem dX2_step_16 : decode cX2_step 16 = .ok (.aload_n 0, 1) := by decide +kernel
theorem dX2_step_17 : decode cX2_step 17 = .ok (.iload_n 1, 1) := by decide +kernel
theorem dX2_step_18 : decode cX2_step 18 = .ok (.iload_n 2, 1) := by decide +kernel
theorem dX2_step_19 : decode cX2_step 19 = .ok (.invokevirtual 76, 3) := by decide +kernel
theorem dX2_step_22 : decode cX2_step 22 = .ok (.iconst 1, 1) := by decide +kernel
theorem dX2_step_23 : decode cX2_step 23 = .ok (.iload_n 3, 1) := by decide +kernel
theorem dX2_step_24 : decode cX2_step 24 = .ok (.ishl, 1) := by decide +kernel
theorem dX2_step_25 : decode cX2_step 25 = .ok (.iconst (-1), 1) := by decide +kernel
theorem dX2_step_26 : decode cX2_step 26 = .ok (.ixor, 1) := by decide +kernel
theorem dX2_step_27 : decode cX2_step 27 = .ok (.iand, 1) := by decide +kernel
theorem dX2_step_28 : decode cX2_step 28 = .ok (.invokestatic 85, 3) := by decide +kernel
theorem dX2_step_31 : decode cX2_step 31 = .ok (.goto 5, 3) := by decide +kernel
theorem dX2_step_34 : decode cX2_step 34 = .ok (.bipush 9, 2) := by decide +kernel
theorem dX2_step_36 : decode cX2_step 36 = .ok (.istore 4, 2) := by decide +kernel
theorem dX2_step_38 : decode cX2_step 38 = .ok (.aload_n 0, 1) := by decide +kernel
theorem dX2_step_39 : decode cX2_step 39 = .ok (.getfield 25, 3) := by decide +kernel
theorem dX2_step_42 : decode cX2_step 42 = .ok (.iload_n 3, 1) := by decide +kernel
theorem dX2_step_43 : decode cX2_step 43 = .ok (.dup2, 1) := by decide +kernel
theorem dX2_step_44 : decode cX2_step 44 = .ok (.iaload, 1) := by decide +kernel
theorem dX2_step_45 : decode cX2_step 45 = .ok (.iconst 1, 1) := by decide +kernel
theorem dX2_step_46 : decode cX2_step 46 = .ok (.iadd, 1) := by decide +kernel
theorem dX2_step_47 : decode cX2_step 47 = .ok (.iastore, 1) := by decide +kernel
theorem dX2_step_48 : decode cX2_step 48 = .ok (.aload_n 0, 1) := by decide +kernel
theorem dX2_step_49 : decode cX2_step 49 = .ok (.iload 4, 2) := by decide +kernel
theorem dX2_step_51 : decode cX2_step 51 = .ok (.invokevirtual 31, 3) := by decide +kernel
theorem dX2_step_54 : decode cX2_step 54 = .ok (.ifCond .eq 14, 3) := by decide +kernel
theorem dX2_step_57 : decode cX2_step 57 = .ok (.aload_n 0, 1) := by decide +kernel
theorem dX2_step_58 : decode cX2_step 58 = .ok (.getfield 25, 3) := by decide +kernel
theorem dX2_step_61 : decode cX2_step 61 = .ok (.iload 4, 2) := by decide +kernel
theorem dX2_step_63 : decode cX2_step 63 = .ok (.dup2, 1) := by decide +kernel
theorem dX2_step_64 : decode cX2_step 64 = .ok (.iaload, 1) := by decide +kernel
theorem dX2_step_65 : decode cX2_step 65 = .ok (.iconst 1, 1) := by decide +kernel
theorem dX2_step_66 : decode cX2_step 66 = .ok (.iadd, 1) := by decide +kernel
theorem dX2_step_67 : decode cX2_step 67 = .ok (.iastore, 1) := by decide +kernel
theorem dX2_step_68 : decode cX2_step 68 = .ok (.aload_n 0, 1) := by decide +kernel
theorem dX2_step_69 : decode cX2_step 69 = .ok (.iload_n 1, 1) := by decide +kernel
theorem dX2_step_70 : decode cX2_step 70 = .ok (.iload_n 2, 1) := by decide +kernel
theorem dX2_step_71 : decode cX2_step 71 = .ok (.invokevirtual 88, 3) := by decide +kernel
theorem dX2_step_74 : decode cX2_step 74 = .ok (.pop, 1) := by decide +kernel
theorem dX2_step_75 : decode cX2_step 75 = .ok (.return_, 1) := by decide +kernel
set_option maxRecDepth 20000 in
theorem ggX2_stepByLeast_X2_areTwo : GoodIn wsX2_stepByLeast wsX2_areTwo := goodIn_r _ [5, 6, 7, 8, 4, 9, 10, 64, 65, 66, 67, 68, 69] (by decide +kernel) (by decide +kernel)
set_option maxRecDepth 20000 in
theorem gX2_stepByLeast_X2_areTwo : GoodIn wsX2_stepByLeast (wsV RX2 42 RX2 yX2_areTwo wsX2_areTwo) := goodIn_app (goodIn_of _ (by decide +kernel)) ggX2_stepByLeast_X2_areTwo
set_option maxRecDepth 20000 in
theorem ggX2_stepByLeast_X2_waysToDance : GoodIn wsX2_stepByLeast wsX2_waysToDance := goodIn_r _ [14, 15, 16, 17, 18, 4, 19, 20, 21, 22, 23, 24, 25, 26, 27, 28, 29, 30, 31, 10, 32, 33, 34, 35, 36, 37, 38, 39, 40, 41, 42, 43, 44, 45, 46, 47, 48, 49, 50, 51, 52, 64, 65, 66, 67, 68, 69] (by decide +kernel) (by decide +kernel)
set_option maxRecDepth 20000 in
theorem gX2_stepByLeast_X2_waysToDance : GoodIn wsX2_stepByLeast (wsV RX2 82 RX2 yX2_waysToDance wsX2_waysToDance) := goodIn_app (goodIn_of _ (by decide +kernel)) ggX2_stepByLeast_X2_waysToDance
set_option maxRecDepth 20000 in
theorem ggX2_stepByLeast_X6_leastOf : GoodIn wsX2_stepByLeast wsX6_leastOf := goodIn_r _ [54, 55, 21, 22, 23] (by decide +kernel) (by decide +kernel)
set_option maxRecDepth 20000 in
theorem gX2_stepByLeast_X6_leastOf_n85 : GoodIn wsX2_stepByLeast (wsX6_leastOf) := ggX2_stepByLeast_X6_leastOf
set_option maxRecDepth 20000 in
theorem ggX2_stepByLeast_X2_step : GoodIn wsX2_stepByLeast wsX2_step := goodIn_r _ [59, 15, 36, 6, 7, 8, 4, 9, 10, 24, 25, 26, 27, 20, 28, 29, 30, 31, 21, 22, 23, 32, 33, 34, 35, 37, 38, 39, 40, 41, 42, 43, 44, 45, 46, 47, 48, 53, 54, 55, 60, 61, 62, 63, 1, 2, 3, 5, 64, 65, 66, 67, 68, 69] (by decide +kernel) (by decide +kernel)
set_option maxRecDepth 20000 in
theorem gX2_stepByLeast_X2_step : GoodIn wsX2_stepByLeast (wsV RX2 91 RX2 yX2_step wsX2_step) := goodIn_app (goodIn_of _ (by decide +kernel)) ggX2_stepByLeast_X2_step
theorem dX2_stepByLeast_0 : decode cX2_stepByLeast 0 = .ok (.aload_n 0, 1) := by decide +kernel
theorem dX2_stepByLeast_1 : decode cX2_stepByLeast 1 = .ok (.iload_n 1, 1) := by decide +kernel
theorem dX2_stepByLeast_2 : decode cX2_stepByLeast 2 = .ok (.iload_n 2, 1) := by decide +kernel
theorem dX2_stepByLeast_3 : decode cX2_stepByLeast 3 = .ok (.invokevirtual 42, 3) := by decide +kernel
theorem dX2_stepByLeast_6 : decode cX2_stepByLeast 6 = .ok (.ifCond .ne 5, 3) := by decide +kernel
theorem dX2_stepByLeast_9 : decode cX2_stepByLeast 9 = .ok (.iconst 0, 1) := by decide +kernel
theorem dX2_stepByLeast_10 : decode cX2_stepByLeast 10 = .ok (.ireturn, 1) := by decide +kernel
theorem dX2_stepByLeast_11 : decode cX2_stepByLeast 11 = .ok (.aload_n 0, 1) := by decide +kernel
theorem dX2_stepByLeast_12 : decode cX2_stepByLeast 12 = .ok (.iload_n 1, 1) := by decide +kernel
theorem dX2_stepByLeast_13 : decode cX2_stepByLeast 13 = .ok (.iload_n 2, 1) := by decide +kernel
theorem dX2_stepByLeast_14 : decode cX2_stepByLeast 14 = .ok (.invokevirtual 82, 3) := by decide +kernel
theorem dX2_stepByLeast_17 : decode cX2_stepByLeast 17 = .ok (.istore_n 3, 1) := by decide +kernel
theorem dX2_stepByLeast_18 : decode cX2_stepByLeast 18 = .ok (.iload_n 3, 1) := by decide +kernel
theorem dX2_stepByLeast_19 : decode cX2_stepByLeast 19 = .ok (.ifCond .ne 5, 3) := by decide +kernel
theorem dX2_stepByLeast_22 : decode cX2_stepByLeast 22 = .ok (.iconst 0, 1) := by decide +kernel
theorem dX2_stepByLeast_23 : decode cX2_stepByLeast 23 = .ok (.ireturn, 1) := by decide +kernel
theorem dX2_stepByLeast_24 : decode cX2_stepByLeast 24 = .ok (.aload_n 0, 1) := by decide +kernel
theorem dX2_stepByLeast_25 : decode cX2_stepByLeast 25 = .ok (.iload_n 1, 1) := by decide +kernel
theorem dX2_stepByLeast_26 : decode cX2_stepByLeast 26 = .ok (.iload_n 2, 1) := by decide +kernel
theorem dX2_stepByLeast_27 : decode cX2_stepByLeast 27 = .ok (.iload_n 3, 1) := by decide +kernel
theorem dX2_stepByLeast_28 : decode cX2_stepByLeast 28 = .ok (.invokestatic 85, 3) := by decide +kernel
theorem dX2_stepByLeast_31 : decode cX2_stepByLeast 31 = .ok (.invokevirtual 91, 3) := by decide +kernel
theorem dX2_stepByLeast_34 : decode cX2_stepByLeast 34 = .ok (.iconst 1, 1) := by decide +kernel
theorem dX2_stepByLeast_35 : decode cX2_stepByLeast 35 = .ok (.ireturn, 1) := by decide +kernel
theorem dX2_forgetBrought_0 : decode cX2_forgetBrought 0 = .ok (.iconst 0, 1) := by decide +kernel
theorem dX2_forgetBrought_1 : decode cX2_forgetBrought 1 = .ok (.istore_n 1, 1) := by decide +kernel
theorem dX2_forgetBrought_2 : decode cX2_forgetBrought 2 = .ok (.iconst 0, 1) := by decide +kernel
theorem dX2_forgetBrought_3 : decode cX2_forgetBrought 3 = .ok (.istore_n 2, 1) := by decide +kernel
theorem dX2_forgetBrought_4 : decode cX2_forgetBrought 4 = .ok (.iload_n 2, 1) := by decide +kernel
theorem dX2_forgetBrought_5 : decode cX2_forgetBrought 5 = .ok (.aload_n 0, 1) := by decide +kernel
theorem dX2_forgetBrought_6 : decode cX2_forgetBrought 6 = .ok (.getfield 9, 3) := by decide +kernel
theorem dX2_forgetBrought_9 : decode cX2_forgetBrought 9 = .ok (.if_icmp .ge 28, 3) := by decide +kernel
theorem dX2_forgetBrought_12 : decode cX2_forgetBrought 12 = .ok (.aload_n 0, 1) := by decide +kernel
theorem dX2_forgetBrought_13 : decode cX2_forgetBrought 13 = .ok (.getfield 25, 3) := by decide +kernel
theorem dX2_forgetBrought_16 : decode cX2_forgetBrought 16 = .ok (.iload_n 2, 1) := by decide +kernel
theorem dX2_forgetBrought_17 : decode cX2_forgetBrought 17 = .ok (.iaload, 1) := by decide +kernel
theorem dX2_forgetBrought_18 : decode cX2_forgetBrought 18 = .ok (.ifCond .le 6, 3) := by decide +kernel
theorem dX2_forgetBrought_21 : decode cX2_forgetBrought 21 = .ok (.iinc 1 1, 3) := by decide +kernel
theorem dX2_forgetBrought_24 : decode cX2_forgetBrought 24 = .ok (.aload_n 0, 1) := by decide +kernel
theorem dX2_forgetBrought_25 : decode cX2_forgetBrought 25 = .ok (.getfield 25, 3) := by decide +kernel
theorem dX2_forgetBrought_28 : decode cX2_forgetBrought 28 = .ok (.iload_n 2, 1) := by decide +kernel
theorem dX2_forgetBrought_29 : decode cX2_forgetBrought 29 = .ok (.iconst 0, 1) := by decide +kernel
theorem dX2_forgetBrought_30 : decode cX2_forgetBrought 30 = .ok (.iastore, 1) := by decide +kernel
theorem dX2_forgetBrought_31 : decode cX2_forgetBrought 31 = .ok (.iinc 2 1, 3) := by decide +kernel
theorem dX2_forgetBrought_34 : decode cX2_forgetBrought 34 = .ok (.goto (-30), 3) := by decide +kernel
theorem dX2_forgetBrought_37 : decode cX2_forgetBrought 37 = .ok (.iload_n 1, 1) := by decide +kernel
theorem dX2_forgetBrought_38 : decode cX2_forgetBrought 38 = .ok (.ireturn, 1) := by decide +kernel
theorem dX2_allBrought_0 : decode cX2_allBrought 0 = .ok (.iconst 0, 1) := by decide +kernel
theorem dX2_allBrought_1 : decode cX2_allBrought 1 = .ok (.istore_n 1, 1) := by decide +kernel
theorem dX2_allBrought_2 : decode cX2_allBrought 2 = .ok (.iconst 0, 1) := by decide +kernel
theorem dX2_allBrought_3 : decode cX2_allBrought 3 = .ok (.istore_n 2, 1) := by decide +kernel
theorem dX2_allBrought_4 : decode cX2_allBrought 4 = .ok (.iload_n 2, 1) := by decide +kernel
theorem dX2_allBrought_5 : decode cX2_allBrought 5 = .ok (.aload_n 0, 1) := by decide +kernel
theorem dX2_allBrought_6 : decode cX2_allBrought 6 = .ok (.getfield 9, 3) := by decide +kernel
theorem dX2_allBrought_9 : decode cX2_allBrought 9 = .ok (.if_icmp .ge 18, 3) := by decide +kernel
theorem dX2_allBrought_12 : decode cX2_allBrought 12 = .ok (.iload_n 1, 1) := by decide +kernel
theorem dX2_allBrought_13 : decode cX2_allBrought 13 = .ok (.aload_n 0, 1) := by decide +kernel
theorem dX2_allBrought_14 : decode cX2_allBrought 14 = .ok (.getfield 25, 3) := by decide +kernel
theorem dX2_allBrought_17 : decode cX2_allBrought 17 = .ok (.iload_n 2, 1) := by decide +kernel
theorem dX2_allBrought_18 : decode cX2_allBrought 18 = .ok (.iaload, 1) := by decide +kernel
theorem dX2_allBrought_19 : decode cX2_allBrought 19 = .ok (.iadd, 1) := by decide +kernel
theorem dX2_allBrought_20 : decode cX2_allBrought 20 = .ok (.istore_n 1, 1) := by decide +kernel
theorem dX2_allBrought_21 : decode cX2_allBrought 21 = .ok (.iinc 2 1, 3) := by decide +kernel
theorem dX2_allBrought_24 : decode cX2_allBrought 24 = .ok (.goto (-20), 3) := by decide +kernel
theorem dX2_allBrought_27 : decode cX2_allBrought 27 = .ok (.iload_n 1, 1) := by decide +kernel
theorem dX2_allBrought_28 : decode cX2_allBrought 28 = .ok (.ireturn, 1) := by decide +kernel
set_option maxRecDepth 20000 in
theorem ggX2_pairsDanced_J6_bitCount_0f7a4 : GoodIn wsX2_pairsDanced wsJ6_bitCount_0f7a4 := goodIn_r _ [6, 7, 8, 9] (by decide +kernel) (by decide +kernel)
set_option maxRecDepth 20000 in
theorem gX2_pairsDanced_J6_bitCount_0f7a4 : GoodIn wsX2_pairsDanced (va_wsS RX2 71 yJ6_bitCount_0f7a4 wsJ6_bitCount_0f7a4) := goodIn_app (goodIn_of _ (by decide +kernel)) ggX2_pairsDanced_J6_bitCount_0f7a4
theorem dX2_pairsDanced_0 : decode cX2_pairsDanced 0 = .ok (.iconst 0, 1) := by decide +kernel
theorem dX2_pairsDanced_1 : decode cX2_pairsDanced 1 = .ok (.istore_n 1, 1) := by decide +kernel
theorem dX2_pairsDanced_2 : decode cX2_pairsDanced 2 = .ok (.iconst 0, 1) := by decide +kernel
theorem dX2_pairsDanced_3 : decode cX2_pairsDanced 3 = .ok (.istore_n 2, 1) := by decide +kernel
theorem dX2_pairsDanced_4 : decode cX2_pairsDanced 4 = .ok (.iload_n 2, 1) := by decide +kernel
theorem dX2_pairsDanced_5 : decode cX2_pairsDanced 5 = .ok (.aload_n 0, 1) := by decide +kernel
theorem dX2_pairsDanced_6 : decode cX2_pairsDanced 6 = .ok (.getfield 9, 3) := by decide +kernel
theorem dX2_pairsDanced_9 : decode cX2_pairsDanced 9 = .ok (.if_icmp .ge 21, 3) := by decide +kernel
theorem dX2_pairsDanced_12 : decode cX2_pairsDanced 12 = .ok (.iload_n 1, 1) := by decide +kernel
theorem dX2_pairsDanced_13 : decode cX2_pairsDanced 13 = .ok (.aload_n 0, 1) := by decide +kernel
theorem dX2_pairsDanced_14 : decode cX2_pairsDanced 14 = .ok (.getfield 28, 3) := by decide +kernel
theorem dX2_pairsDanced_17 : decode cX2_pairsDanced 17 = .ok (.iload_n 2, 1) := by decide +kernel
theorem dX2_pairsDanced_18 : decode cX2_pairsDanced 18 = .ok (.iaload, 1) := by decide +kernel
theorem dX2_pairsDanced_19 : decode cX2_pairsDanced 19 = .ok (.invokestatic 71, 3) := by decide +kernel
theorem dX2_pairsDanced_22 : decode cX2_pairsDanced 22 = .ok (.iadd, 1) := by decide +kernel
theorem dX2_pairsDanced_23 : decode cX2_pairsDanced 23 = .ok (.istore_n 1, 1) := by decide +kernel
theorem dX2_pairsDanced_24 : decode cX2_pairsDanced 24 = .ok (.iinc 2 1, 3) := by decide +kernel
theorem dX2_pairsDanced_27 : decode cX2_pairsDanced 27 = .ok (.goto (-23), 3) := by decide +kernel
theorem dX2_pairsDanced_30 : decode cX2_pairsDanced 30 = .ok (.iload_n 1, 1) := by decide +kernel
theorem dX2_pairsDanced_31 : decode cX2_pairsDanced 31 = .ok (.iconst 2, 1) := by decide +kernel
theorem dX2_pairsDanced_32 : decode cX2_pairsDanced 32 = .ok (.idiv, 1) := by decide +kernel
theorem dX2_pairsDanced_33 : decode cX2_pairsDanced 33 = .ok (.ireturn, 1) := by decide +kernel
set_option maxRecDepth 20000 in
theorem ggX2_pairsAllowed_X2_isAllowed : GoodIn wsX2_pairsAllowed wsX2_isAllowed := goodIn_r _ [6, 7, 8, 9, 5, 10, 11, 12, 13, 14, 15, 16, 17, 18, 19, 20, 21, 22, 23, 24, 25, 26, 27, 1, 28, 29, 30, 31, 32, 33, 34, 35, 36, 37, 38, 39, 40, 41, 42, 43, 44, 45, 46, 47, 48, 49, 50, 51, 52, 53, 54] (by decide +kernel) (by decide +kernel)
set_option maxRecDepth 20000 in
theorem gX2_pairsAllowed_X2_isAllowed : GoodIn wsX2_pairsAllowed (wsV RX2 95 RX2 yX2_isAllowed wsX2_isAllowed) := goodIn_app (goodIn_of _ (by decide +kernel)) ggX2_pairsAllowed_X2_isAllowed
theorem dX2_pairsAllowed_0 : decode cX2_pairsAllowed 0 = .ok (.iconst 0, 1) := by decide +kernel
theorem dX2_pairsAllowed_1 : decode cX2_pairsAllowed 1 = .ok (.istore_n 1, 1) := by decide +kernel
theorem dX2_pairsAllowed_2 : decode cX2_pairsAllowed 2 = .ok (.iconst 0, 1) := by decide +kernel
theorem dX2_pairsAllowed_3 : decode cX2_pairsAllowed 3 = .ok (.istore_n 2, 1) := by decide +kernel
theorem dX2_pairsAllowed_4 : decode cX2_pairsAllowed 4 = .ok (.iload_n 2, 1) := by decide +kernel
theorem dX2_pairsAllowed_5 : decode cX2_pairsAllowed 5 = .ok (.aload_n 0, 1) := by decide +kernel
theorem dX2_pairsAllowed_6 : decode cX2_pairsAllowed 6 = .ok (.getfield 9, 3) := by decide +kernel
theorem dX2_pairsAllowed_9 : decode cX2_pairsAllowed 9 = .ok (.if_icmp .ge 39, 3) := by decide +kernel
theorem dX2_pairsAllowed_12 : decode cX2_pairsAllowed 12 = .ok (.iload_n 2, 1) := by decide +kernel
theorem dX2_pairsAllowed_13 : decode cX2_pairsAllowed 13 = .ok (.iconst 1, 1) := by decide +kernel
theorem dX2_pairsAllowed_14 : decode cX2_pairsAllowed 14 = .ok (.iadd, 1) := by decide +kernel
theorem dX2_pairsAllowed_15 : decode cX2_pairsAllowed 15 = .ok (.istore_n 3, 1) := by decide +kernel
theorem dX2_pairsAllowed_16 : decode cX2_pairsAllowed 16 = .ok (.iload_n 3, 1) := by decide +kernel
theorem dX2_pairsAllowed_17 : decode cX2_pairsAllowed 17 = .ok (.aload_n 0, 1) := by decide +kernel
theorem dX2_pairsAllowed_18 : decode cX2_pairsAllowed 18 = .ok (.getfield 9, 3) := by decide +kernel
theorem dX2_pairsAllowed_21 : decode cX2_pairsAllowed 21 = .ok (.if_icmp .ge 21, 3) := by decide +kernel
theorem dX2_pairsAllowed_24 : decode cX2_pairsAllowed 24 = .ok (.aload_n 0, 1) := by decide +kernel
theorem dX2_pairsAllowed_25 : decode cX2_pairsAllowed 25 = .ok (.iload_n 2, 1) := by decide +kernel
theorem dX2_pairsAllowed_26 : decode cX2_pairsAllowed 26 = .ok (.iload_n 3, 1) := by decide +kernel
theorem dX2_pairsAllowed_27 : decode cX2_pairsAllowed 27 = .ok (.invokevirtual 95, 3) := by decide +kernel
theorem dX2_pairsAllowed_30 : decode cX2_pairsAllowed 30 = .ok (.ifCond .eq 6, 3) := by decide +kernel
theorem dX2_pairsAllowed_33 : decode cX2_pairsAllowed 33 = .ok (.iinc 1 1, 3) := by decide +kernel
theorem dX2_pairsAllowed_36 : decode cX2_pairsAllowed 36 = .ok (.iinc 3 1, 3) := by decide +kernel
theorem dX2_pairsAllowed_39 : decode cX2_pairsAllowed 39 = .ok (.goto (-23), 3) := by decide +kernel
theorem dX2_pairsAllowed_42 : decode cX2_pairsAllowed 42 = .ok (.iinc 2 1, 3) := by decide +kernel
theorem dX2_pairsAllowed_45 : decode cX2_pairsAllowed 45 = .ok (.goto (-41), 3) := by decide +kernel
theorem dX2_pairsAllowed_48 : decode cX2_pairsAllowed 48 = .ok (.iload_n 1, 1) := by decide +kernel
theorem dX2_pairsAllowed_49 : decode cX2_pairsAllowed 49 = .ok (.ireturn, 1) := by decide +kernel
set_option maxRecDepth 20000 in
theorem ggX2_heaps_X6_hasBit : GoodIn wsX2_heaps wsX6_hasBit := goodIn_r _ [4] (by decide +kernel) (by decide +kernel)
set_option maxRecDepth 20000 in
theorem gX2_heaps_X6_hasBit_n46 : GoodIn wsX2_heaps (wsX6_hasBit) := ggX2_heaps_X6_hasBit
set_option maxRecDepth 20000 in
theorem ggX2_heaps_X2_heapOf : GoodIn wsX2_heaps wsX2_heapOf := goodIn_r _ [9, 1, 10, 2, 3, 4, 11, 12, 13, 14, 15, 16] (by decide +kernel) (by decide +kernel)
set_option maxRecDepth 20000 in
theorem gX2_heaps_X2_heapOf : GoodIn wsX2_heaps (wsV RX2 98 RX2 yX2_heapOf wsX2_heapOf) := goodIn_app (goodIn_of _ (by decide +kernel)) ggX2_heaps_X2_heapOf
theorem dX2_heaps_0 : decode cX2_heaps 0 = .ok (.iconst 0, 1) := by decide +kernel
theorem dX2_heaps_1 : decode cX2_heaps 1 = .ok (.istore_n 1, 1) := by decide +kernel
theorem dX2_heaps_2 : decode cX2_heaps 2 = .ok (.iconst 0, 1) := by decide +kernel
theorem dX2_heaps_3 : decode cX2_heaps 3 = .ok (.istore_n 2, 1) := by decide +kernel
theorem dX2_heaps_4 : decode cX2_heaps 4 = .ok (.iconst 0, 1) := by decide +kernel
theorem dX2_heaps_5 : decode cX2_heaps 5 = .ok (.istore_n 3, 1) := by decide +kernel
theorem dX2_heaps_6 : decode cX2_heaps 6 = .ok (.iload_n 3, 1) := by decide +kernel
theorem dX2_heaps_7 : decode cX2_heaps 7 = .ok (.aload_n 0, 1) := by decide +kernel
theorem dX2_heaps_8 : decode cX2_heaps 8 = .ok (.getfield 9, 3) := by decide +kernel
theorem dX2_heaps_11 : decode cX2_heaps 11 = .ok (.if_icmp .ge 28, 3) := by decide +kernel
theorem dX2_heaps_14 : decode cX2_heaps 14 = .ok (.iload_n 1, 1) := by decide +kernel
theorem dX2_heaps_15 : decode cX2_heaps 15 = .ok (.iload_n 3, 1) := by decide +kernel
theorem dX2_heaps_16 : decode cX2_heaps 16 = .ok (.invokestatic 46, 3) := by decide +kernel
theorem dX2_heaps_19 : decode cX2_heaps 19 = .ok (.ifCond .ne 14, 3) := by decide +kernel
theorem dX2_heaps_22 : decode cX2_heaps 22 = .ok (.iinc 2 1, 3) := by decide +kernel
theorem dX2_heaps_25 : decode cX2_heaps 25 = .ok (.iload_n 1, 1) := by decide +kernel
theorem dX2_heaps_26 : decode cX2_heaps 26 = .ok (.aload_n 0, 1) := by decide +kernel
theorem dX2_heaps_27 : decode cX2_heaps 27 = .ok (.iload_n 3, 1) := by decide +kernel
theorem dX2_heaps_28 : decode cX2_heaps 28 = .ok (.invokevirtual 98, 3) := by decide +kernel
theorem dX2_heaps_31 : decode cX2_heaps 31 = .ok (.ior, 1) := by decide +kernel
theorem dX2_heaps_32 : decode cX2_heaps 32 = .ok (.istore_n 1, 1) := by decide +kernel
theorem dX2_heaps_33 : decode cX2_heaps 33 = .ok (.iinc 3 1, 3) := by decide +kernel
theorem dX2_heaps_36 : decode cX2_heaps 36 = .ok (.goto (-30), 3) := by decide +kernel
theorem dX2_heaps_39 : decode cX2_heaps 39 = .ok (.iload_n 2, 1) := by decide +kernel
theorem dX2_heaps_40 : decode cX2_heaps 40 = .ok (.ireturn, 1) := by decide +kernel
set_option maxRecDepth 20000 in
theorem ggX2_heapOf_X6_hasBit : GoodIn wsX2_heapOf wsX6_hasBit := goodIn_r _ [5] (by decide +kernel) (by decide +kernel)
set_option maxRecDepth 20000 in
theorem gX2_heapOf_X6_hasBit_n46 : GoodIn wsX2_heapOf (wsX6_hasBit) := ggX2_heapOf_X6_hasBit
theorem dX2_heapOf_0 : decode cX2_heapOf 0 = .ok (.iconst 1, 1) := by decide +kernel
theorem dX2_heapOf_1 : decode cX2_heapOf 1 = .ok (.iload_n 1, 1) := by decide +kernel
theorem dX2_heapOf_2 : decode cX2_heapOf 2 = .ok (.ishl, 1) := by decide +kernel
theorem dX2_heapOf_3 : decode cX2_heapOf 3 = .ok (.istore_n 2, 1) := by decide +kernel
theorem dX2_heapOf_4 : decode cX2_heapOf 4 = .ok (.iconst 1, 1) := by decide +kernel
theorem dX2_heapOf_5 : decode cX2_heapOf 5 = .ok (.istore_n 3, 1) := by decide +kernel
theorem dX2_heapOf_6 : decode cX2_heapOf 6 = .ok (.iload_n 3, 1) := by decide +kernel
theorem dX2_heapOf_7 : decode cX2_heapOf 7 = .ok (.aload_n 0, 1) := by decide +kernel
theorem dX2_heapOf_8 : decode cX2_heapOf 8 = .ok (.getfield 9, 3) := by decide +kernel
theorem dX2_heapOf_11 : decode cX2_heapOf 11 = .ok (.if_icmp .ge 54, 3) := by decide +kernel
theorem dX2_heapOf_14 : decode cX2_heapOf 14 = .ok (.iload_n 2, 1) := by decide +kernel
theorem dX2_heapOf_15 : decode cX2_heapOf 15 = .ok (.istore 4, 2) := by decide +kernel
theorem dX2_heapOf_17 : decode cX2_heapOf 17 = .ok (.iconst 0, 1) := by decide +kernel
theorem dX2_heapOf_18 : decode cX2_heapOf 18 = .ok (.istore 5, 2) := by decide +kernel
theorem dX2_heapOf_20 : decode cX2_heapOf 20 = .ok (.iload 5, 2) := by decide +kernel
theorem dX2_heapOf_22 : decode cX2_heapOf 22 = .ok (.aload_n 0, 1) := by decide +kernel
theorem dX2_heapOf_23 : decode cX2_heapOf 23 = .ok (.getfield 9, 3) := by decide +kernel
theorem dX2_heapOf_26 : decode cX2_heapOf 26 = .ok (.if_icmp .ge 30, 3) := by decide +kernel
theorem dX2_heapOf_29 : decode cX2_heapOf 29 = .ok (.iload_n 2, 1) := by decide +kernel
theorem dX2_heapOf_30 : decode cX2_heapOf 30 = .ok (.iload 5, 2) := by decide +kernel
theorem dX2_heapOf_32 : decode cX2_heapOf 32 = .ok (.invokestatic 46, 3) := by decide +kernel
theorem dX2_heapOf_35 : decode cX2_heapOf 35 = .ok (.ifCond .eq 15, 3) := by decide +kernel
theorem dX2_heapOf_38 : decode cX2_heapOf 38 = .ok (.iload 4, 2) := by decide +kernel
theorem dX2_heapOf_40 : decode cX2_heapOf 40 = .ok (.aload_n 0, 1) := by decide +kernel
theorem dX2_heapOf_41 : decode cX2_heapOf 41 = .ok (.getfield 28, 3) := by decide +kernel
theorem dX2_heapOf_44 : decode cX2_heapOf 44 = .ok (.iload 5, 2) := by decide +kernel
theorem dX2_heapOf_46 : decode cX2_heapOf 46 = .ok (.iaload, 1) := by decide +kernel
theorem dX2_heapOf_47 : decode cX2_heapOf 47 = .ok (.ior, 1) := by decide +kernel
theorem dX2_heapOf_48 : decode cX2_heapOf 48 = .ok (.istore 4, 2) := by decide +kernel
theorem dX2_heapOf_50 : decode cX2_heapOf 50 = .ok (.iinc 5 1, 3) := by decide +kernel
theorem dX2_heapOf_53 : decode cX2_heapOf 53 = .ok (.goto (-33), 3) := by decide +kernel
theorem dX2_heapOf_56 : decode cX2_heapOf 56 = .ok (.iload 4, 2) := by decide +kernel
theorem dX2_heapOf_58 : decode cX2_heapOf 58 = .ok (.istore_n 2, 1) := by decide +kernel
theorem dX2_heapOf_59 : decode cX2_heapOf 59 = .ok (.iinc 3 1, 3) := by decide +kernel
theorem dX2_heapOf_62 : decode cX2_heapOf 62 = .ok (.goto (-56), 3) := by decide +kernel
theorem dX2_heapOf_65 : decode cX2_heapOf 65 = .ok (.iload_n 2, 1) := by decide +kernel
theorem dX2_heapOf_66 : decode cX2_heapOf 66 = .ok (.ireturn, 1) := by decide +kernel
set_option maxRecDepth 20000 in
theorem ggX3_init_X0_init : GoodIn wsX3_init wsX0_init := goodIn_r _ [10, 11, 2, 3, 12, 13, 14, 15, 16, 17, 18, 19, 21, 22, 23, 24, 25, 26, 27] (by decide +kernel) (by decide +kernel)
set_option maxRecDepth 20000 in
theorem gX3_init_X0_init : GoodIn wsX3_init (wsX0_init) := ggX3_init_X0_init
theorem dX3_init_0 : decode cX3_init 0 = .ok (.aload_n 0, 1) := by decide +kernel
theorem dX3_init_1 : decode cX3_init 1 = .ok (.invokespecial 3, 3) := by decide +kernel
theorem dX3_init_4 : decode cX3_init 4 = .ok (.aload_n 0, 1) := by decide +kernel
theorem dX3_init_5 : decode cX3_init 5 = .ok (.iconst 4, 1) := by decide +kernel
theorem dX3_init_6 : decode cX3_init 6 = .ok (.anewarray 9, 3) := by decide +kernel
theorem dX3_init_9 : decode cX3_init 9 = .ok (.putfield 11, 3) := by decide +kernel
theorem dX3_init_12 : decode cX3_init 12 = .ok (.iconst 0, 1) := by decide +kernel
theorem dX3_init_13 : decode cX3_init 13 = .ok (.istore_n 1, 1) := by decide +kernel
theorem dX3_init_14 : decode cX3_init 14 = .ok (.iload_n 1, 1) := by decide +kernel
theorem dX3_init_15 : decode cX3_init 15 = .ok (.iconst 3, 1) := by decide +kernel
theorem dX3_init_16 : decode cX3_init 16 = .ok (.if_icmp .gt 22, 3) := by decide +kernel
theorem dX3_init_19 : decode cX3_init 19 = .ok (.aload_n 0, 1) := by decide +kernel
theorem dX3_init_20 : decode cX3_init 20 = .ok (.getfield 11, 3) := by decide +kernel
theorem dX3_init_23 : decode cX3_init 23 = .ok (.iload_n 1, 1) := by decide +kernel
theorem dX3_init_24 : decode cX3_init 24 = .ok (.new 9, 3) := by decide +kernel
theorem dX3_init_27 : decode cX3_init 27 = .ok (.dup, 1) := by decide +kernel
theorem dX3_init_28 : decode cX3_init 28 = .ok (.invokespecial 17, 3) := by decide +kernel
theorem dX3_init_31 : decode cX3_init 31 = .ok (.aastore, 1) := by decide +kernel
theorem dX3_init_32 : decode cX3_init 32 = .ok (.iinc 1 1, 3) := by decide +kernel
theorem dX3_init_35 : decode cX3_init 35 = .ok (.goto (-21), 3) := by decide +kernel
theorem dX3_init_38 : decode cX3_init 38 = .ok (.return_, 1) := by decide +kernel
set_option maxRecDepth 20000 in
theorem ggX3_settled_X0_begin : GoodIn wsX3_settled wsX0_begin := goodIn_r _ [6, 7, 8, 9, 10, 11, 12, 13, 14, 15, 16, 17, 5, 18, 19, 20, 21, 22, 23, 24, 25, 58, 59, 60, 61, 62, 63, 64, 65, 66, 67, 68, 69, 70] (by decide +kernel) (by decide +kernel)
set_option maxRecDepth 20000 in
theorem gX3_settled_X0_begin : GoodIn wsX3_settled (wsV RX3 18 RX0 yX0_begin wsX0_begin) := goodIn_app (goodIn_of _ (by decide +kernel)) ggX3_settled_X0_begin
set_option maxRecDepth 20000 in
theorem ggX3_settled_X0_settle : GoodIn wsX3_settled wsX0_settle := goodIn_r _ [29, 30, 31, 32, 5, 33, 8, 34, 13, 12, 35, 36, 37, 38, 39, 40, 41, 42, 43, 44, 45, 15, 11, 10, 46, 47, 48, 49, 50, 51, 52, 53, 54, 55, 56, 64, 65, 66, 67, 68, 69, 70] (by decide +kernel) (by decide +kernel)
set_option maxRecDepth 20000 in
theorem gX3_settled_X0_settle : GoodIn wsX3_settled (wsV RX3 22 RX0 yX0_settle wsX0_settle) := goodIn_app (goodIn_of _ (by decide +kernel)) ggX3_settled_X0_settle
theorem dX3_settled_0 : decode cX3_settled 0 = .ok (.aload_n 0, 1) := by decide +kernel
theorem dX3_settled_1 : decode cX3_settled 1 = .ok (.getfield 11, 3) := by decide +kernel
theorem dX3_settled_4 : decode cX3_settled 4 = .ok (.iconst 0, 1) := by decide +kernel
theorem dX3_settled_5 : decode cX3_settled 5 = .ok (.aaload, 1) := by decide +kernel
theorem dX3_settled_6 : decode cX3_settled 6 = .ok (.astore_n 2, 1) := by decide +kernel
theorem dX3_settled_7 : decode cX3_settled 7 = .ok (.aload_n 2, 1) := by decide +kernel
theorem dX3_settled_8 : decode cX3_settled 8 = .ok (.aload_n 1, 1) := by decide +kernel
theorem dX3_settled_9 : decode cX3_settled 9 = .ok (.invokevirtual 18, 3) := by decide +kernel
theorem dX3_settled_12 : decode cX3_settled 12 = .ok (.aload_n 2, 1) := by decide +kernel
theorem dX3_settled_13 : decode cX3_settled 13 = .ok (.invokevirtual 22, 3) := by decide +kernel
theorem dX3_settled_16 : decode cX3_settled 16 = .ok (.aload_n 2, 1) := by decide +kernel
theorem dX3_settled_17 : decode cX3_settled 17 = .ok (.areturn, 1) := by decide +kernel
set_option maxRecDepth 20000 in
theorem ggX3_isEver_X3_settled : GoodIn wsX3_isEver wsX3_settled := goodIn_r _ [5, 6, 7, 8, 9, 10, 11, 12, 13, 14, 15, 16, 17, 18, 19, 20, 21, 22, 23, 24, 25, 26, 27, 28, 29, 30, 31, 32, 33, 34, 35, 36, 37, 38, 39, 40, 41, 42, 43, 44, 45, 46, 47, 48, 49, 50, 51, 52, 53, 54, 55, 56, 57, 58, 59, 60, 61, 63, 64, 65, 66, 67, 68, 69, 70, 71, 72, 73, 74, 75, 76] (by decide +kernel) (by decide +kernel)
set_option maxRecDepth 20000 in
theorem gX3_isEver_X3_settled : GoodIn wsX3_isEver (wsV RX3 25 RX3 yX3_settled wsX3_settled) := goodIn_app (goodIn_of _ (by decide +kernel)) ggX3_isEver_X3_settled
set_option maxRecDepth 20000 in
theorem ggX3_isEver_X0_haveDanced : GoodIn wsX3_isEver wsX0_haveDanced := goodIn_r _ [43, 18, 44, 45, 46, 70, 71, 72, 73, 74, 75, 76] (by decide +kernel) (by decide +kernel)
set_option maxRecDepth 20000 in
theorem gX3_isEver_X0_haveDanced : GoodIn wsX3_isEver (wsV RX3 29 RX0 yX0_haveDanced wsX0_haveDanced) := goodIn_app (goodIn_of _ (by decide +kernel)) ggX3_isEver_X0_haveDanced
theorem dX3_isEver_0 : decode cX3_isEver 0 = .ok (.aload_n 0, 1) := by decide +kernel
theorem dX3_isEver_1 : decode cX3_isEver 1 = .ok (.aload_n 1, 1) := by decide +kernel
theorem dX3_isEver_2 : decode cX3_isEver 2 = .ok (.invokevirtual 25, 3) := by decide +kernel
theorem dX3_isEver_5 : decode cX3_isEver 5 = .ok (.iload_n 2, 1) := by decide +kernel
theorem dX3_isEver_6 : decode cX3_isEver 6 = .ok (.iload_n 3, 1) := by decide +kernel
theorem dX3_isEver_7 : decode cX3_isEver 7 = .ok (.invokevirtual 29, 3) := by decide +kernel
theorem dX3_isEver_10 : decode cX3_isEver 10 = .ok (.ireturn, 1) := by decide +kernel
set_option maxRecDepth 20000 in
theorem ggX3_roundOf_X0_begin : GoodIn wsX3_roundOf wsX0_begin := goodIn_r _ [6, 7, 8, 9, 10, 11, 12, 13, 14, 15, 16, 17, 5, 18, 19, 20, 21, 22, 23, 24, 25, 55, 56, 57, 58, 59, 60, 61, 62, 63, 64, 65, 66, 67] (by decide +kernel) (by decide +kernel)
set_option maxRecDepth 20000 in
theorem gX3_roundOf_X0_begin : GoodIn wsX3_roundOf (wsV RX3 18 RX0 yX0_begin wsX0_begin) := goodIn_app (goodIn_of _ (by decide +kernel)) ggX3_roundOf_X0_begin
set_option maxRecDepth 20000 in
theorem ggX3_roundOf_X0_haveDanced : GoodIn wsX3_roundOf wsX0_haveDanced := goodIn_r _ [29, 13, 30, 31, 32, 61, 62, 63, 64, 65, 66, 67] (by decide +kernel) (by decide +kernel)
set_option maxRecDepth 20000 in
theorem gX3_roundOf_X0_haveDanced : GoodIn wsX3_roundOf (wsV RX3 29 RX0 yX0_haveDanced wsX0_haveDanced) := goodIn_app (goodIn_of _ (by decide +kernel)) ggX3_roundOf_X0_haveDanced
set_option maxRecDepth 20000 in
theorem ggX3_roundOf_X0_playRound : GoodIn wsX3_roundOf wsX0_playRound := goodIn_r _ [36, 8, 37, 13, 12, 38, 27, 28, 5, 29, 30, 31, 32, 39, 40, 41, 42, 15, 11, 10, 43, 44, 45, 46, 47, 48, 49, 50, 51, 52, 53, 61, 62, 63, 64, 65, 66, 67] (by decide +kernel) (by decide +kernel)
set_option maxRecDepth 20000 in
theorem gX3_roundOf_X0_playRound : GoodIn wsX3_roundOf (wsV RX3 33 RX0 yX0_playRound wsX0_playRound) := goodIn_app (goodIn_of _ (by decide +kernel)) ggX3_roundOf_X0_playRound
theorem dX3_roundOf_0 : decode cX3_roundOf 0 = .ok (.aload_n 0, 1) := by decide +kernel
theorem dX3_roundOf_1 : decode cX3_roundOf 1 = .ok (.getfield 11, 3) := by decide +kernel
theorem dX3_roundOf_4 : decode cX3_roundOf 4 = .ok (.iconst 0, 1) := by decide +kernel
theorem dX3_roundOf_5 : decode cX3_roundOf 5 = .ok (.aaload, 1) := by decide +kernel
theorem dX3_roundOf_6 : decode cX3_roundOf 6 = .ok (.astore 4, 2) := by decide +kernel
theorem dX3_roundOf_8 : decode cX3_roundOf 8 = .ok (.aload 4, 2) := by decide +kernel
theorem dX3_roundOf_10 : decode cX3_roundOf 10 = .ok (.aload_n 1, 1) := by decide +kernel
theorem dX3_roundOf_11 : decode cX3_roundOf 11 = .ok (.invokevirtual 18, 3) := by decide +kernel
theorem dX3_roundOf_14 : decode cX3_roundOf 14 = .ok (.iconst 0, 1) := by decide +kernel
theorem dX3_roundOf_15 : decode cX3_roundOf 15 = .ok (.istore 5, 2) := by decide +kernel
theorem dX3_roundOf_17 : decode cX3_roundOf 17 = .ok (.iload 5, 2) := by decide +kernel
theorem dX3_roundOf_19 : decode cX3_roundOf 19 = .ok (.bipush 28, 2) := by decide +kernel
theorem dX3_roundOf_21 : decode cX3_roundOf 21 = .ok (.if_icmp .gt 33, 3) := by decide +kernel
theorem dX3_roundOf_24 : decode cX3_roundOf 24 = .ok (.aload 4, 2) := by decide +kernel
theorem dX3_roundOf_26 : decode cX3_roundOf 26 = .ok (.iload_n 2, 1) := by decide +kernel
theorem dX3_roundOf_27 : decode cX3_roundOf 27 = .ok (.iload_n 3, 1) := by decide +kernel
theorem dX3_roundOf_28 : decode cX3_roundOf 28 = .ok (.invokevirtual 29, 3) := by decide +kernel
theorem dX3_roundOf_31 : decode cX3_roundOf 31 = .ok (.ifCond .eq 6, 3) := by decide +kernel
theorem dX3_roundOf_34 : decode cX3_roundOf 34 = .ok (.iload 5, 2) := by decide +kernel
theorem dX3_roundOf_36 : decode cX3_roundOf 36 = .ok (.ireturn, 1) := by decide +kernel
theorem dX3_roundOf_37 : decode cX3_roundOf 37 = .ok (.aload 4, 2) := by decide +kernel
theorem dX3_roundOf_39 : decode cX3_roundOf 39 = .ok (.invokevirtual 33, 3) := by decide +kernel
theorem dX3_roundOf_42 : decode cX3_roundOf 42 = .ok (.ifCond .ne 6, 3) := by decide +kernel
theorem dX3_roundOf_45 : decode cX3_roundOf 45 = .ok (.bipush (-9), 2) := by decide +kernel
theorem dX3_roundOf_47 : decode cX3_roundOf 47 = .ok (.ireturn, 1) := by decide +kernel
theorem dX3_roundOf_48 : decode cX3_roundOf 48 = .ok (.iinc 5 1, 3) := by decide +kernel
theorem dX3_roundOf_51 : decode cX3_roundOf 51 = .ok (.goto (-34), 3) := by decide +kernel
theorem dX3_roundOf_54 : decode cX3_roundOf 54 = .ok (.bipush (-9), 2) := by decide +kernel
theorem dX3_roundOf_56 : decode cX3_roundOf 56 = .ok (.ireturn, 1) := by decide +kernel
set_option maxRecDepth 20000 in
theorem ggX3_pairsInTheEnd_X0_begin : GoodIn wsX3_pairsInTheEnd wsX0_begin := goodIn_r _ [7, 8, 9, 10, 11, 12, 13, 14, 15, 16, 17, 18, 6, 19, 20, 21, 22, 23, 24, 25, 26, 70, 71, 72, 73, 74, 75, 63, 64, 65, 66, 67, 68, 69] (by decide +kernel) (by decide +kernel)
set_option maxRecDepth 20000 in
theorem gX3_pairsInTheEnd_X0_begin : GoodIn wsX3_pairsInTheEnd (wsV RX3 18 RX0 yX0_begin wsX0_begin) := goodIn_app (goodIn_of _ (by decide +kernel)) ggX3_pairsInTheEnd_X0_begin
set_option maxRecDepth 20000 in
theorem ggX3_pairsInTheEnd_X0_settle : GoodIn wsX3_pairsInTheEnd wsX0_settle := goodIn_r _ [30, 31, 32, 33, 6, 34, 9, 35, 14, 13, 36, 37, 38, 39, 40, 41, 42, 43, 44, 45, 46, 16, 12, 11, 47, 48, 49, 50, 51, 52, 53, 54, 55, 56, 57, 63, 64, 65, 66, 67, 68, 69] (by decide +kernel) (by decide +kernel)
set_option maxRecDepth 20000 in
theorem gX3_pairsInTheEnd_X0_settle : GoodIn wsX3_pairsInTheEnd (wsV RX3 22 RX0 yX0_settle wsX0_settle) := goodIn_app (goodIn_of _ (by decide +kernel)) ggX3_pairsInTheEnd_X0_settle
set_option maxRecDepth 20000 in
theorem ggX3_pairsInTheEnd_X0_pairs : GoodIn wsX3_pairsInTheEnd wsX0_pairs := goodIn_r _ [61, 9, 14, 51, 52, 53, 54, 55, 56, 57, 63, 64, 65, 66, 67, 68, 69] (by decide +kernel) (by decide +kernel)
set_option maxRecDepth 20000 in
theorem gX3_pairsInTheEnd_X0_pairs : GoodIn wsX3_pairsInTheEnd (wsV RX3 41 RX0 yX0_pairs wsX0_pairs) := goodIn_app (goodIn_of _ (by decide +kernel)) ggX3_pairsInTheEnd_X0_pairs
theorem dX3_pairsInTheEnd_0 : decode cX3_pairsInTheEnd 0 = .ok (.aload_n 0, 1) := by decide +kernel
theorem dX3_pairsInTheEnd_1 : decode cX3_pairsInTheEnd 1 = .ok (.getfield 11, 3) := by decide +kernel
theorem dX3_pairsInTheEnd_4 : decode cX3_pairsInTheEnd 4 = .ok (.iconst 0, 1) := by decide +kernel
theorem dX3_pairsInTheEnd_5 : decode cX3_pairsInTheEnd 5 = .ok (.aaload, 1) := by decide +kernel
theorem dX3_pairsInTheEnd_6 : decode cX3_pairsInTheEnd 6 = .ok (.astore_n 3, 1) := by decide +kernel
theorem dX3_pairsInTheEnd_7 : decode cX3_pairsInTheEnd 7 = .ok (.aload_n 3, 1) := by decide +kernel
theorem dX3_pairsInTheEnd_8 : decode cX3_pairsInTheEnd 8 = .ok (.aload_n 1, 1) := by decide +kernel
theorem dX3_pairsInTheEnd_9 : decode cX3_pairsInTheEnd 9 = .ok (.invokevirtual 18, 3) := by decide +kernel
theorem dX3_pairsInTheEnd_12 : decode cX3_pairsInTheEnd 12 = .ok (.aload_n 3, 1) := by decide +kernel
theorem dX3_pairsInTheEnd_13 : decode cX3_pairsInTheEnd 13 = .ok (.iload_n 2, 1) := by decide +kernel
theorem dX3_pairsInTheEnd_14 : decode cX3_pairsInTheEnd 14 = .ok (.putfield 37, 3) := by decide +kernel
theorem dX3_pairsInTheEnd_17 : decode cX3_pairsInTheEnd 17 = .ok (.aload_n 3, 1) := by decide +kernel
theorem dX3_pairsInTheEnd_18 : decode cX3_pairsInTheEnd 18 = .ok (.invokevirtual 22, 3) := by decide +kernel
theorem dX3_pairsInTheEnd_21 : decode cX3_pairsInTheEnd 21 = .ok (.aload_n 3, 1) := by decide +kernel
theorem dX3_pairsInTheEnd_22 : decode cX3_pairsInTheEnd 22 = .ok (.invokevirtual 41, 3) := by decide +kernel
theorem dX3_pairsInTheEnd_25 : decode cX3_pairsInTheEnd 25 = .ok (.ireturn, 1) := by decide +kernel
set_option maxRecDepth 20000 in
theorem ggX3_roundsTillTheEnd_X3_settled : GoodIn wsX3_roundsTillTheEnd wsX3_settled := goodIn_r _ [6, 7, 8, 9, 10, 11, 12, 13, 14, 15, 16, 17, 18, 19, 20, 21, 22, 23, 24, 25, 26, 27, 28, 29, 30, 31, 32, 33, 34, 35, 36, 37, 38, 39, 40, 41, 42, 43, 44, 45, 46, 47, 48, 49, 50, 51, 52, 53, 54, 55, 56, 57, 58, 59, 60, 61, 62, 70, 71, 72, 73, 74, 75, 76, 63, 64, 65, 66, 67, 68, 69] (by decide +kernel) (by decide +kernel)
set_option maxRecDepth 20000 in
theorem gX3_roundsTillTheEnd_X3_settled : GoodIn wsX3_roundsTillTheEnd (wsV RX3 25 RX3 yX3_settled wsX3_settled) := goodIn_app (goodIn_of _ (by decide +kernel)) ggX3_roundsTillTheEnd_X3_settled
theorem dX3_roundsTillTheEnd_0 : decode cX3_roundsTillTheEnd 0 = .ok (.aload_n 0, 1) := by decide +kernel
theorem dX3_roundsTillTheEnd_1 : decode cX3_roundsTillTheEnd 1 = .ok (.aload_n 1, 1) := by decide +kernel
theorem dX3_roundsTillTheEnd_2 : decode cX3_roundsTillTheEnd 2 = .ok (.invokevirtual 25, 3) := by decide +kernel
theorem dX3_roundsTillTheEnd_5 : decode cX3_roundsTillTheEnd 5 = .ok (.getfield 45, 3) := by decide +kernel
theorem dX3_roundsTillTheEnd_8 : decode cX3_roundsTillTheEnd 8 = .ok (.ireturn, 1) := by decide +kernel
set_option maxRecDepth 20000 in
theorem ggX3_opened_X3_settled : GoodIn wsX3_opened wsX3_settled := goodIn_r _ [5, 6, 7, 8, 9, 10, 11, 12, 13, 14, 15, 16, 17, 18, 19, 20, 21, 22, 23, 24, 25, 26, 27, 28, 29, 30, 31, 32, 33, 34, 35, 36, 37, 38, 39, 40, 41, 42, 43, 44, 45, 46, 47, 48, 49, 50, 51, 52, 53, 54, 55, 56, 57, 58, 59, 60, 61, 84, 85, 86, 87, 88, 89, 90, 91, 92, 93, 94, 95, 96, 97] (by decide +kernel) (by decide +kernel)
set_option maxRecDepth 20000 in
theorem gX3_opened_X3_settled : GoodIn wsX3_opened (wsV RX3 25 RX3 yX3_settled wsX3_settled) := goodIn_app (goodIn_of _ (by decide +kernel)) ggX3_opened_X3_settled
set_option maxRecDepth 20000 in
theorem ggX3_opened_X0_pairs : GoodIn wsX3_opened wsX0_pairs := goodIn_r _ [65, 13, 18, 55, 56, 57, 58, 59, 60, 61, 91, 92, 93, 94, 95, 96, 97] (by decide +kernel) (by decide +kernel)
set_option maxRecDepth 20000 in
theorem gX3_opened_X0_pairs : GoodIn wsX3_opened (wsV RX3 41 RX0 yX0_pairs wsX0_pairs) := goodIn_app (goodIn_of _ (by decide +kernel)) ggX3_opened_X0_pairs
set_option maxRecDepth 20000 in
theorem ggX3_opened_X6_pairOf : GoodIn wsX3_opened wsX6_pairOf := goodIn_r _ [67, 68, 52, 53, 54, 69, 70, 71] (by decide +kernel) (by decide +kernel)
set_option maxRecDepth 20000 in
theorem gX3_opened_X6_pairOf_n48 : GoodIn wsX3_opened (wsX6_pairOf) := ggX3_opened_X6_pairOf
set_option maxRecDepth 20000 in
theorem ggX3_opened_X3_pairsWith : GoodIn wsX3_opened wsX3_pairsWith := goodIn_r _ [75, 6, 7, 8, 9, 10, 11, 12, 13, 14, 15, 16, 17, 18, 19, 20, 21, 22, 23, 24, 25, 26, 27, 28, 29, 30, 76, 77, 78, 79, 80, 45, 81, 82, 83, 31, 32, 33, 34, 35, 36, 37, 38, 39, 40, 41, 42, 43, 44, 46, 47, 48, 49, 50, 51, 52, 53, 54, 55, 56, 57, 58, 59, 60, 61, 62, 63, 64, 65, 84, 85, 86, 87, 88, 89, 90, 91, 92, 93, 94, 95, 96, 97] (by decide +kernel) (by decide +kernel)
set_option maxRecDepth 20000 in
theorem gX3_opened_X3_pairsWith : GoodIn wsX3_opened (wsV RX3 52 RX3 yX3_pairsWith wsX3_pairsWith) := goodIn_app (goodIn_of _ (by decide +kernel)) ggX3_opened_X3_pairsWith
theorem dX3_opened_0 : decode cX3_opened 0 = .ok (.aload_n 0, 1) := by decide +kernel
theorem dX3_opened_1 : decode cX3_opened 1 = .ok (.aload_n 1, 1) := by decide +kernel
theorem dX3_opened_2 : decode cX3_opened 2 = .ok (.invokevirtual 25, 3) := by decide +kernel
theorem dX3_opened_5 : decode cX3_opened 5 = .ok (.invokevirtual 41, 3) := by decide +kernel
theorem dX3_opened_8 : decode cX3_opened 8 = .ok (.istore 4, 2) := by decide +kernel
theorem dX3_opened_10 : decode cX3_opened 10 = .ok (.aload_n 0, 1) := by decide +kernel
theorem dX3_opened_11 : decode cX3_opened 11 = .ok (.aload_n 1, 1) := by decide +kernel
theorem dX3_opened_12 : decode cX3_opened 12 = .ok (.iload_n 2, 1) := by decide +kernel
theorem dX3_opened_13 : decode cX3_opened 13 = .ok (.iload_n 3, 1) := by decide +kernel
theorem dX3_opened_14 : decode cX3_opened 14 = .ok (.invokestatic 48, 3) := by decide +kernel
theorem dX3_opened_17 : decode cX3_opened 17 = .ok (.invokevirtual 52, 3) := by decide +kernel
theorem dX3_opened_20 : decode cX3_opened 20 = .ok (.iload 4, 2) := by decide +kernel
theorem dX3_opened_22 : decode cX3_opened 22 = .ok (.isub, 1) := by decide +kernel
theorem dX3_opened_23 : decode cX3_opened 23 = .ok (.ireturn, 1) := by decide +kernel
set_option maxRecDepth 20000 in
theorem ggX3_pairsWith_X0_begin : GoodIn wsX3_pairsWith wsX0_begin := goodIn_r _ [6, 7, 8, 9, 10, 11, 12, 13, 14, 15, 16, 17, 5, 18, 19, 20, 21, 22, 23, 24, 25, 70, 71, 72, 73, 74, 75, 76, 77, 78, 79, 80, 81, 82] (by decide +kernel) (by decide +kernel)
set_option maxRecDepth 20000 in
theorem gX3_pairsWith_X0_begin : GoodIn wsX3_pairsWith (wsV RX3 18 RX0 yX0_begin wsX0_begin) := goodIn_app (goodIn_of _ (by decide +kernel)) ggX3_pairsWith_X0_begin
set_option maxRecDepth 20000 in
theorem ggX3_pairsWith_X0_joinPair : GoodIn wsX3_pairsWith wsX0_joinPair := goodIn_r _ [29, 13, 30, 31, 32, 33, 34, 76, 77, 78, 79, 80, 81, 82] (by decide +kernel) (by decide +kernel)
set_option maxRecDepth 20000 in
theorem gX3_pairsWith_X0_joinPair : GoodIn wsX3_pairsWith (wsV RX3 56 RX0 yX0_joinPair wsX0_joinPair) := goodIn_app (goodIn_of _ (by decide +kernel)) ggX3_pairsWith_X0_joinPair
set_option maxRecDepth 20000 in
theorem ggX3_pairsWith_X0_settle : GoodIn wsX3_pairsWith wsX0_settle := goodIn_r _ [38, 39, 40, 41, 5, 42, 8, 43, 13, 12, 44, 45, 46, 47, 48, 31, 49, 50, 51, 52, 53, 15, 11, 10, 54, 55, 56, 57, 58, 59, 60, 61, 62, 63, 64, 76, 77, 78, 79, 80, 81, 82] (by decide +kernel) (by decide +kernel)
set_option maxRecDepth 20000 in
theorem gX3_pairsWith_X0_settle : GoodIn wsX3_pairsWith (wsV RX3 22 RX0 yX0_settle wsX0_settle) := goodIn_app (goodIn_of _ (by decide +kernel)) ggX3_pairsWith_X0_settle
set_option maxRecDepth 20000 in
theorem ggX3_pairsWith_X0_pairs : GoodIn wsX3_pairsWith wsX0_pairs := goodIn_r _ [68, 8, 13, 58, 59, 60, 61, 62, 63, 64, 76, 77, 78, 79, 80, 81, 82] (by decide +kernel) (by decide +kernel)
set_option maxRecDepth 20000 in
theorem gX3_pairsWith_X0_pairs : GoodIn wsX3_pairsWith (wsV RX3 41 RX0 yX0_pairs wsX0_pairs) := goodIn_app (goodIn_of _ (by decide +kernel)) ggX3_pairsWith_X0_pairs
theorem dX3_pairsWith_0 : decode cX3_pairsWith 0 = .ok (.aload_n 0, 1) := by decide +kernel
theorem dX3_pairsWith_1 : decode cX3_pairsWith 1 = .ok (.getfield 11, 3) := by decide +kernel
theorem dX3_pairsWith_4 : decode cX3_pairsWith 4 = .ok (.iconst 0, 1) := by decide +kernel
theorem dX3_pairsWith_5 : decode cX3_pairsWith 5 = .ok (.aaload, 1) := by decide +kernel
theorem dX3_pairsWith_6 : decode cX3_pairsWith 6 = .ok (.astore_n 3, 1) := by decide +kernel
theorem dX3_pairsWith_7 : decode cX3_pairsWith 7 = .ok (.aload_n 3, 1) := by decide +kernel
theorem dX3_pairsWith_8 : decode cX3_pairsWith 8 = .ok (.aload_n 1, 1) := by decide +kernel
theorem dX3_pairsWith_9 : decode cX3_pairsWith 9 = .ok (.invokevirtual 18, 3) := by decide +kernel
theorem dX3_pairsWith_12 : decode cX3_pairsWith 12 = .ok (.aload_n 3, 1) := by decide +kernel
theorem dX3_pairsWith_13 : decode cX3_pairsWith 13 = .ok (.iload_n 2, 1) := by decide +kernel
theorem dX3_pairsWith_14 : decode cX3_pairsWith 14 = .ok (.invokevirtual 56, 3) := by decide +kernel
theorem dX3_pairsWith_17 : decode cX3_pairsWith 17 = .ok (.aload_n 3, 1) := by decide +kernel
theorem dX3_pairsWith_18 : decode cX3_pairsWith 18 = .ok (.invokevirtual 22, 3) := by decide +kernel
theorem dX3_pairsWith_21 : decode cX3_pairsWith 21 = .ok (.aload_n 3, 1) := by decide +kernel
theorem dX3_pairsWith_22 : decode cX3_pairsWith 22 = .ok (.invokevirtual 41, 3) := by decide +kernel
theorem dX3_pairsWith_25 : decode cX3_pairsWith 25 = .ok (.ireturn, 1) := by decide +kernel
set_option maxRecDepth 20000 in
theorem ggX3_pairThatOpensMost_X2_isOpenPair : GoodIn wsX3_pairThatOpensMost wsX2_isOpenPair := goodIn_r _ [5, 6, 7, 8, 4, 9, 10, 11, 12, 13, 14, 15, 16, 17, 18, 19, 20, 21, 22, 23, 24, 25, 26, 27, 28, 29, 30, 96, 97, 98, 99, 100, 101] (by decide +kernel) (by decide +kernel)
set_option maxRecDepth 20000 in
theorem gX3_pairThatOpensMost_X2_isOpenPair : GoodIn wsX3_pairThatOpensMost (wsV RX3 60 RX2 yX2_isOpenPair wsX2_isOpenPair) := goodIn_app (goodIn_of _ (by decide +kernel)) ggX3_pairThatOpensMost_X2_isOpenPair
set_option maxRecDepth 20000 in
theorem ggX3_pairThatOpensMost_X3_pairsWith : GoodIn wsX3_pairThatOpensMost wsX3_pairsWith := goodIn_r _ [35, 36, 37, 38, 39, 40, 41, 42, 43, 44, 45, 46, 47, 48, 49, 50, 51, 52, 53, 54, 55, 56, 4, 57, 58, 59, 60, 61, 62, 63, 10, 11, 12, 13, 14, 64, 65, 66, 67, 68, 69, 70, 71, 72, 73, 74, 75, 76, 29, 30, 77, 78, 79, 80, 81, 82, 83, 84, 85, 86, 87, 88, 89, 90, 91, 92, 93, 94, 95, 102, 96, 97, 98, 99, 100, 101, 103, 104, 105, 106, 107, 108, 109] (by decide +kernel) (by decide +kernel)
set_option maxRecDepth 20000 in
theorem gX3_pairThatOpensMost_X3_pairsWith : GoodIn wsX3_pairThatOpensMost (wsV RX3 52 RX3 yX3_pairsWith wsX3_pairsWith) := goodIn_app (goodIn_of _ (by decide +kernel)) ggX3_pairThatOpensMost_X3_pairsWith
theorem dX3_pairThatOpensMost_0 : decode cX3_pairThatOpensMost 0 = .ok (.iconst (-1), 1) := by decide +kernel
theorem dX3_pairThatOpensMost_1 : decode cX3_pairThatOpensMost 1 = .ok (.istore_n 2, 1) := by decide +kernel
theorem dX3_pairThatOpensMost_2 : decode cX3_pairThatOpensMost 2 = .ok (.bipush (-9), 2) := by decide +kernel
theorem dX3_pairThatOpensMost_4 : decode cX3_pairThatOpensMost 4 = .ok (.istore_n 3, 1) := by decide +kernel
theorem dX3_pairThatOpensMost_5 : decode cX3_pairThatOpensMost 5 = .ok (.iconst 1, 1) := by decide +kernel
theorem dX3_pairThatOpensMost_6 : decode cX3_pairThatOpensMost 6 = .ok (.istore 4, 2) := by decide +kernel
theorem dX3_pairThatOpensMost_8 : decode cX3_pairThatOpensMost 8 = .ok (.iload 4, 2) := by decide +kernel
theorem dX3_pairThatOpensMost_10 : decode cX3_pairThatOpensMost 10 = .ok (.bipush 67, 2) := by decide +kernel
theorem dX3_pairThatOpensMost_12 : decode cX3_pairThatOpensMost 12 = .ok (.if_icmp .gt 39, 3) := by decide +kernel
theorem dX3_pairThatOpensMost_15 : decode cX3_pairThatOpensMost 15 = .ok (.aload_n 1, 1) := by decide +kernel
theorem dX3_pairThatOpensMost_16 : decode cX3_pairThatOpensMost 16 = .ok (.iload 4, 2) := by decide +kernel
theorem dX3_pairThatOpensMost_18 : decode cX3_pairThatOpensMost 18 = .ok (.invokevirtual 60, 3) := by decide +kernel
theorem dX3_pairThatOpensMost_21 : decode cX3_pairThatOpensMost 21 = .ok (.ifCond .eq 24, 3) := by decide +kernel
theorem dX3_pairThatOpensMost_24 : decode cX3_pairThatOpensMost 24 = .ok (.aload_n 0, 1) := by decide +kernel
theorem dX3_pairThatOpensMost_25 : decode cX3_pairThatOpensMost 25 = .ok (.aload_n 1, 1) := by decide +kernel
theorem dX3_pairThatOpensMost_26 : decode cX3_pairThatOpensMost 26 = .ok (.iload 4, 2) := by decide +kernel
theorem dX3_pairThatOpensMost_28 : decode cX3_pairThatOpensMost 28 = .ok (.invokevirtual 52, 3) := by decide +kernel
theorem dX3_pairThatOpensMost_31 : decode cX3_pairThatOpensMost 31 = .ok (.istore 5, 2) := by decide +kernel
theorem dX3_pairThatOpensMost_33 : decode cX3_pairThatOpensMost 33 = .ok (.iload 5, 2) := by decide +kernel
theorem dX3_pairThatOpensMost_35 : decode cX3_pairThatOpensMost 35 = .ok (.iload_n 2, 1) := by decide +kernel
theorem dX3_pairThatOpensMost_36 : decode cX3_pairThatOpensMost 36 = .ok (.if_icmp .le 9, 3) := by decide +kernel
theorem dX3_pairThatOpensMost_39 : decode cX3_pairThatOpensMost 39 = .ok (.iload 5, 2) := by decide +kernel
theorem dX3_pairThatOpensMost_41 : decode cX3_pairThatOpensMost 41 = .ok (.istore_n 2, 1) := by decide +kernel
theorem dX3_pairThatOpensMost_42 : decode cX3_pairThatOpensMost 42 = .ok (.iload 4, 2) := by decide +kernel
theorem dX3_pairThatOpensMost_44 : decode cX3_pairThatOpensMost 44 = .ok (.istore_n 3, 1) := by decide +kernel
theorem dX3_pairThatOpensMost_45 : decode cX3_pairThatOpensMost 45 = .ok (.iinc 4 1, 3) := by decide +kernel
theorem dX3_pairThatOpensMost_48 : decode cX3_pairThatOpensMost 48 = .ok (.goto (-40), 3) := by decide +kernel
theorem dX3_pairThatOpensMost_51 : decode cX3_pairThatOpensMost 51 = .ok (.iload_n 3, 1) := by decide +kernel
theorem dX3_pairThatOpensMost_52 : decode cX3_pairThatOpensMost 52 = .ok (.ireturn, 1) := by decide +kernel
set_option maxRecDepth 20000 in
theorem ggX3_fewestAdded_X3_settled : GoodIn wsX3_fewestAdded wsX3_settled := goodIn_r _ [5, 6, 7, 8, 9, 10, 11, 12, 13, 14, 15, 16, 17, 18, 19, 20, 21, 22, 23, 24, 25, 26, 27, 28, 29, 30, 31, 32, 33, 34, 35, 36, 37, 38, 39, 40, 41, 42, 43, 44, 45, 46, 47, 48, 49, 50, 51, 52, 53, 54, 55, 56, 57, 58, 59, 60, 61, 100, 101, 102, 103, 104, 105, 106, 107, 108, 109, 110, 111, 112, 113] (by decide +kernel) (by decide +kernel)
set_option maxRecDepth 20000 in
theorem gX3_fewestAdded_X3_settled : GoodIn wsX3_fewestAdded (wsV RX3 25 RX3 yX3_settled wsX3_settled) := goodIn_app (goodIn_of _ (by decide +kernel)) ggX3_fewestAdded_X3_settled
set_option maxRecDepth 20000 in
theorem ggX3_fewestAdded_X0_isFull : GoodIn wsX3_fewestAdded wsX0_isFull := goodIn_r _ [65, 13, 66, 67, 68, 10, 69, 18, 55, 56, 57, 58, 59, 60, 61, 107, 108, 109, 110, 111, 112, 113] (by decide +kernel) (by decide +kernel)
set_option maxRecDepth 20000 in
theorem gX3_fewestAdded_X0_isFull : GoodIn wsX3_fewestAdded (wsV RX3 66 RX0 yX0_isFull wsX0_isFull) := goodIn_app (goodIn_of _ (by decide +kernel)) ggX3_fewestAdded_X0_isFull
set_option maxRecDepth 20000 in
theorem ggX3_fewestAdded_X3_firstOfSet : GoodIn wsX3_fewestAdded wsX3_firstOfSet := goodIn_r _ [73, 6, 74, 75, 76, 27, 77, 78, 45, 79, 80, 81, 82, 83, 84, 85, 86, 87, 88, 89, 90, 91, 41, 42, 10, 43, 18, 44, 46, 92, 93, 94, 95, 13, 15, 16, 17, 20, 96, 97, 98, 99, 31, 32, 33, 34, 35, 36, 37, 38, 39, 40, 47, 48, 49, 50, 51, 52, 53, 54, 55, 56, 57, 58, 59, 60, 61, 62, 63, 64, 65, 66, 67, 68, 69, 70, 71, 72, 4, 100, 101, 102, 103, 104, 105, 106, 107, 108, 109, 110, 111, 112, 113] (by decide +kernel) (by decide +kernel)
set_option maxRecDepth 20000 in
theorem gX3_fewestAdded_X3_firstOfSet : GoodIn wsX3_fewestAdded (wsV RX3 69 RX3 yX3_firstOfSet wsX3_firstOfSet) := goodIn_app (goodIn_of _ (by decide +kernel)) ggX3_fewestAdded_X3_firstOfSet
theorem dX3_fewestAdded_0 : decode cX3_fewestAdded 0 = .ok (.aload_n 0, 1) := by decide +kernel
theorem dX3_fewestAdded_1 : decode cX3_fewestAdded 1 = .ok (.aload_n 1, 1) := by decide +kernel
theorem dX3_fewestAdded_2 : decode cX3_fewestAdded 2 = .ok (.invokevirtual 25, 3) := by decide +kernel
theorem dX3_fewestAdded_5 : decode cX3_fewestAdded 5 = .ok (.invokevirtual 66, 3) := by decide +kernel
theorem dX3_fewestAdded_8 : decode cX3_fewestAdded 8 = .ok (.ifCond .eq 5, 3) := by decide +kernel
theorem dX3_fewestAdded_11 : decode cX3_fewestAdded 11 = .ok (.iconst 0, 1) := by decide +kernel
theorem dX3_fewestAdded_12 : decode cX3_fewestAdded 12 = .ok (.ireturn, 1) := by decide +kernel
theorem dX3_fewestAdded_13 : decode cX3_fewestAdded 13 = .ok (.iconst 1, 1) := by decide +kernel
theorem dX3_fewestAdded_14 : decode cX3_fewestAdded 14 = .ok (.istore_n 2, 1) := by decide +kernel
theorem dX3_fewestAdded_15 : decode cX3_fewestAdded 15 = .ok (.iload_n 2, 1) := by decide +kernel
theorem dX3_fewestAdded_16 : decode cX3_fewestAdded 16 = .ok (.iconst 3, 1) := by decide +kernel
theorem dX3_fewestAdded_17 : decode cX3_fewestAdded 17 = .ok (.if_icmp .gt 24, 3) := by decide +kernel
theorem dX3_fewestAdded_20 : decode cX3_fewestAdded 20 = .ok (.aload_n 0, 1) := by decide +kernel
theorem dX3_fewestAdded_21 : decode cX3_fewestAdded 21 = .ok (.aload_n 1, 1) := by decide +kernel
theorem dX3_fewestAdded_22 : decode cX3_fewestAdded 22 = .ok (.iconst 0, 1) := by decide +kernel
theorem dX3_fewestAdded_23 : decode cX3_fewestAdded 23 = .ok (.iload_n 2, 1) := by decide +kernel
theorem dX3_fewestAdded_24 : decode cX3_fewestAdded 24 = .ok (.iconst 1, 1) := by decide +kernel
theorem dX3_fewestAdded_25 : decode cX3_fewestAdded 25 = .ok (.invokevirtual 69, 3) := by decide +kernel
theorem dX3_fewestAdded_28 : decode cX3_fewestAdded 28 = .ok (.bipush (-9), 2) := by decide +kernel
theorem dX3_fewestAdded_30 : decode cX3_fewestAdded 30 = .ok (.if_icmp .eq 5, 3) := by decide +kernel
theorem dX3_fewestAdded_33 : decode cX3_fewestAdded 33 = .ok (.iload_n 2, 1) := by decide +kernel
theorem dX3_fewestAdded_34 : decode cX3_fewestAdded 34 = .ok (.ireturn, 1) := by decide +kernel
theorem dX3_fewestAdded_35 : decode cX3_fewestAdded 35 = .ok (.iinc 2 1, 3) := by decide +kernel
theorem dX3_fewestAdded_38 : decode cX3_fewestAdded 38 = .ok (.goto (-23), 3) := by decide +kernel
theorem dX3_fewestAdded_41 : decode cX3_fewestAdded 41 = .ok (.bipush (-9), 2) := by decide +kernel
theorem dX3_fewestAdded_43 : decode cX3_fewestAdded 43 = .ok (.ireturn, 1) := by decide +kernel
set_option maxRecDepth 20000 in
theorem ggX3_firstAdded_X3_settled : GoodIn wsX3_firstAdded wsX3_settled := goodIn_r _ [5, 6, 7, 8, 9, 10, 11, 12, 13, 14, 15, 16, 17, 18, 19, 20, 21, 22, 23, 24, 25, 26, 27, 28, 29, 30, 31, 32, 33, 34, 35, 36, 37, 38, 39, 40, 41, 42, 43, 44, 45, 46, 47, 48, 49, 50, 51, 52, 53, 54, 55, 56, 57, 58, 59, 60, 61, 100, 101, 102, 103, 104, 105, 106, 107, 108, 109, 110, 111, 112, 113] (by decide +kernel) (by decide +kernel)
set_option maxRecDepth 20000 in
theorem gX3_firstAdded_X3_settled : GoodIn wsX3_firstAdded (wsV RX3 25 RX3 yX3_settled wsX3_settled) := goodIn_app (goodIn_of _ (by decide +kernel)) ggX3_firstAdded_X3_settled
set_option maxRecDepth 20000 in
theorem ggX3_firstAdded_X0_isFull : GoodIn wsX3_firstAdded wsX0_isFull := goodIn_r _ [65, 13, 66, 67, 68, 10, 69, 18, 55, 56, 57, 58, 59, 60, 61, 107, 108, 109, 110, 111, 112, 113] (by decide +kernel) (by decide +kernel)
set_option maxRecDepth 20000 in
theorem gX3_firstAdded_X0_isFull : GoodIn wsX3_firstAdded (wsV RX3 66 RX0 yX0_isFull wsX0_isFull) := goodIn_app (goodIn_of _ (by decide +kernel)) ggX3_firstAdded_X0_isFull
set_option maxRecDepth 20000 in
theorem ggX3_firstAdded_X3_firstOfSet : GoodIn wsX3_firstAdded wsX3_firstOfSet := goodIn_r _ [73, 6, 74, 75, 76, 27, 77, 78, 45, 79, 80, 81, 82, 83, 84, 85, 86, 87, 88, 89, 90, 91, 41, 42, 10, 43, 18, 44, 46, 92, 93, 94, 95, 13, 15, 16, 17, 20, 96, 97, 98, 99, 31, 32, 33, 34, 35, 36, 37, 38, 39, 40, 47, 48, 49, 50, 51, 52, 53, 54, 55, 56, 57, 58, 59, 60, 61, 62, 63, 64, 65, 66, 67, 68, 69, 70, 71, 72, 4, 100, 101, 102, 103, 104, 105, 106, 107, 108, 109, 110, 111, 112, 113] (by decide +kernel) (by decide +kernel)
set_option maxRecDepth 20000 in
theorem gX3_firstAdded_X3_firstOfSet : GoodIn wsX3_firstAdded (wsV RX3 69 RX3 yX3_firstOfSet wsX3_firstOfSet) := goodIn_app (goodIn_of _ (by decide +kernel)) ggX3_firstAdded_X3_firstOfSet
theorem dX3_firstAdded_0 : decode cX3_firstAdded 0 = .ok (.aload_n 0, 1) := by decide +kernel
theorem dX3_firstAdded_1 : decode cX3_firstAdded 1 = .ok (.aload_n 1, 1) := by decide +kernel
theorem dX3_firstAdded_2 : decode cX3_firstAdded 2 = .ok (.invokevirtual 25, 3) := by decide +kernel
theorem dX3_firstAdded_5 : decode cX3_firstAdded 5 = .ok (.invokevirtual 66, 3) := by decide +kernel
theorem dX3_firstAdded_8 : decode cX3_firstAdded 8 = .ok (.ifCond .eq 6, 3) := by decide +kernel
theorem dX3_firstAdded_11 : decode cX3_firstAdded 11 = .ok (.bipush (-9), 2) := by decide +kernel
theorem dX3_firstAdded_13 : decode cX3_firstAdded 13 = .ok (.ireturn, 1) := by decide +kernel
theorem dX3_firstAdded_14 : decode cX3_firstAdded 14 = .ok (.iconst 1, 1) := by decide +kernel
theorem dX3_firstAdded_15 : decode cX3_firstAdded 15 = .ok (.istore_n 2, 1) := by decide +kernel
theorem dX3_firstAdded_16 : decode cX3_firstAdded 16 = .ok (.iload_n 2, 1) := by decide +kernel
theorem dX3_firstAdded_17 : decode cX3_firstAdded 17 = .ok (.iconst 3, 1) := by decide +kernel
theorem dX3_firstAdded_18 : decode cX3_firstAdded 18 = .ok (.if_icmp .gt 26, 3) := by decide +kernel
theorem dX3_firstAdded_21 : decode cX3_firstAdded 21 = .ok (.aload_n 0, 1) := by decide +kernel
theorem dX3_firstAdded_22 : decode cX3_firstAdded 22 = .ok (.aload_n 1, 1) := by decide +kernel
theorem dX3_firstAdded_23 : decode cX3_firstAdded 23 = .ok (.iconst 0, 1) := by decide +kernel
theorem dX3_firstAdded_24 : decode cX3_firstAdded 24 = .ok (.iload_n 2, 1) := by decide +kernel
theorem dX3_firstAdded_25 : decode cX3_firstAdded 25 = .ok (.iconst 1, 1) := by decide +kernel
theorem dX3_firstAdded_26 : decode cX3_firstAdded 26 = .ok (.invokevirtual 69, 3) := by decide +kernel
theorem dX3_firstAdded_29 : decode cX3_firstAdded 29 = .ok (.istore_n 3, 1) := by decide +kernel
theorem dX3_firstAdded_30 : decode cX3_firstAdded 30 = .ok (.iload_n 3, 1) := by decide +kernel
theorem dX3_firstAdded_31 : decode cX3_firstAdded 31 = .ok (.bipush (-9), 2) := by decide +kernel
theorem dX3_firstAdded_33 : decode cX3_firstAdded 33 = .ok (.if_icmp .eq 5, 3) := by decide +kernel
theorem dX3_firstAdded_36 : decode cX3_firstAdded 36 = .ok (.iload_n 3, 1) := by decide +kernel
theorem dX3_firstAdded_37 : decode cX3_firstAdded 37 = .ok (.ireturn, 1) := by decide +kernel
theorem dX3_firstAdded_38 : decode cX3_firstAdded 38 = .ok (.iinc 2 1, 3) := by decide +kernel
theorem dX3_firstAdded_41 : decode cX3_firstAdded 41 = .ok (.goto (-25), 3) := by decide +kernel
theorem dX3_firstAdded_44 : decode cX3_firstAdded 44 = .ok (.bipush (-9), 2) := by decide +kernel
theorem dX3_firstAdded_46 : decode cX3_firstAdded 46 = .ok (.ireturn, 1) := by decide +kernel
set_option maxRecDepth 20000 in
theorem ggX3_firstOfSet_X2_isPair : GoodIn wsX3_firstOfSet wsX2_isPair := goodIn_r _ [6, 7, 8, 9, 10, 11, 12, 13, 14, 5, 15, 16, 17, 18, 19, 20, 80, 81, 82, 83, 84, 85] (by decide +kernel) (by decide +kernel)
set_option maxRecDepth 20000 in
theorem gX3_firstOfSet_X2_isPair : GoodIn wsX3_firstOfSet (wsV RX3 73 RX2 yX2_isPair wsX2_isPair) := goodIn_app (goodIn_of _ (by decide +kernel)) ggX3_firstOfSet_X2_isPair
set_option maxRecDepth 20000 in
theorem ggX3_firstOfSet_X6_lesserOf : GoodIn wsX3_firstOfSet wsX6_lesserOf := goodIn_r _ [9] (by decide +kernel) (by decide +kernel)
set_option maxRecDepth 20000 in
theorem gX3_firstOfSet_X6_lesserOf_n76 : GoodIn wsX3_firstOfSet (wsX6_lesserOf) := ggX3_firstOfSet_X6_lesserOf
set_option maxRecDepth 20000 in
theorem ggX3_firstOfSet_X6_greaterOf : GoodIn wsX3_firstOfSet wsX6_greaterOf := goodIn_r _ [11] (by decide +kernel) (by decide +kernel)
set_option maxRecDepth 20000 in
theorem gX3_firstOfSet_X6_greaterOf_n80 : GoodIn wsX3_firstOfSet (wsX6_greaterOf) := ggX3_firstOfSet_X6_greaterOf
set_option maxRecDepth 20000 in
theorem ggX3_firstOfSet_X0_haveDanced : GoodIn wsX3_firstOfSet wsX0_haveDanced := goodIn_r _ [25, 26, 27, 8, 28, 86, 87, 88, 89, 90, 91, 92] (by decide +kernel) (by decide +kernel)
set_option maxRecDepth 20000 in
theorem gX3_firstOfSet_X0_haveDanced : GoodIn wsX3_firstOfSet (wsV RX3 29 RX0 yX0_haveDanced wsX0_haveDanced) := goodIn_app (goodIn_of _ (by decide +kernel)) ggX3_firstOfSet_X0_haveDanced
set_option maxRecDepth 20000 in
theorem ggX3_firstOfSet_X0_copyFrom : GoodIn wsX3_firstOfSet wsX0_copyFrom := goodIn_r _ [32, 33, 34, 35, 36, 26, 37, 86, 87, 88, 89, 90, 91, 92] (by decide +kernel) (by decide +kernel)
set_option maxRecDepth 20000 in
theorem gX3_firstOfSet_X0_copyFrom : GoodIn wsX3_firstOfSet (wsV RX3 83 RX0 yX0_copyFrom wsX0_copyFrom) := goodIn_app (goodIn_of _ (by decide +kernel)) ggX3_firstOfSet_X0_copyFrom
set_option maxRecDepth 20000 in
theorem ggX3_firstOfSet_X0_joinPair : GoodIn wsX3_firstOfSet wsX0_joinPair := goodIn_r _ [41, 26, 7, 8, 9, 10, 11, 86, 87, 88, 89, 90, 91, 92] (by decide +kernel) (by decide +kernel)
set_option maxRecDepth 20000 in
theorem gX3_firstOfSet_X0_joinPair : GoodIn wsX3_firstOfSet (wsV RX3 56 RX0 yX0_joinPair wsX0_joinPair) := goodIn_app (goodIn_of _ (by decide +kernel)) ggX3_firstOfSet_X0_joinPair
set_option maxRecDepth 20000 in
theorem ggX3_firstOfSet_X0_settle : GoodIn wsX3_firstOfSet wsX0_settle := goodIn_r _ [45, 46, 47, 48, 24, 49, 33, 50, 26, 36, 51, 22, 23, 25, 27, 8, 28, 52, 53, 54, 55, 37, 35, 34, 56, 57, 58, 59, 60, 61, 62, 63, 64, 65, 66, 86, 87, 88, 89, 90, 91, 92] (by decide +kernel) (by decide +kernel)
set_option maxRecDepth 20000 in
theorem gX3_firstOfSet_X0_settle : GoodIn wsX3_firstOfSet (wsV RX3 22 RX0 yX0_settle wsX0_settle) := goodIn_app (goodIn_of _ (by decide +kernel)) ggX3_firstOfSet_X0_settle
set_option maxRecDepth 20000 in
theorem ggX3_firstOfSet_X0_isFull : GoodIn wsX3_firstOfSet wsX0_isFull := goodIn_r _ [70, 33, 71, 72, 73, 24, 74, 26, 60, 61, 62, 63, 64, 65, 66, 86, 87, 88, 89, 90, 91, 92] (by decide +kernel) (by decide +kernel)
set_option maxRecDepth 20000 in
theorem gX3_firstOfSet_X0_isFull : GoodIn wsX3_firstOfSet (wsV RX3 66 RX0 yX0_isFull wsX0_isFull) := goodIn_app (goodIn_of _ (by decide +kernel)) ggX3_firstOfSet_X0_isFull
set_option maxRecDepth 20000 in
theorem ggX3_firstOfSet_X3_firstOfSet : GoodIn wsX3_firstOfSet wsX3_firstOfSet := goodIn_r _ [0, 1, 2, 3, 4, 5, 6, 7, 8, 9, 10, 11, 12, 13, 14, 15, 16, 17, 18, 19, 20, 21, 22, 23, 24, 25, 26, 27, 28, 29, 30, 31, 32, 33, 34, 35, 36, 37, 38, 39, 40, 41, 42, 43, 44, 45, 46, 47, 48, 49, 50, 51, 52, 53, 54, 55, 56, 57, 58, 59, 60, 61, 62, 63, 64, 65, 66, 67, 68, 69, 70, 71, 72, 73, 74, 75, 76, 77, 78, 79, 80, 81, 82, 83, 84, 85, 86, 87, 88, 89, 90, 91, 92] (by decide +kernel) (by decide +kernel)
set_option maxRecDepth 20000 in
theorem gX3_firstOfSet_X3_firstOfSet : GoodIn wsX3_firstOfSet (wsV RX3 69 RX3 yX3_firstOfSet wsX3_firstOfSet) := goodIn_app (goodIn_of _ (by decide +kernel)) ggX3_firstOfSet_X3_firstOfSet
theorem dX3_firstOfSet_0 : decode cX3_firstOfSet 0 = .ok (.iload_n 2, 1) := by decide +kernel
theorem dX3_firstOfSet_1 : decode cX3_firstOfSet 1 = .ok (.iconst 3, 1) := by decide +kernel
theorem dX3_firstOfSet_2 : decode cX3_firstOfSet 2 = .ok (.if_icmp .lt 6, 3) := by decide +kernel
theorem dX3_firstOfSet_5 : decode cX3_firstOfSet 5 = .ok (.bipush (-9), 2) := by decide +kernel
theorem dX3_firstOfSet_7 : decode cX3_firstOfSet 7 = .ok (.ireturn, 1) := by decide +kernel
theorem dX3_firstOfSet_8 : decode cX3_firstOfSet 8 = .ok (.aload_n 0, 1) := by decide +kernel
theorem dX3_firstOfSet_9 : decode cX3_firstOfSet 9 = .ok (.getfield 11, 3) := by decide +kernel
theorem dX3_firstOfSet_12 : decode cX3_firstOfSet 12 = .ok (.iload_n 2, 1) := by decide +kernel
theorem dX3_firstOfSet_13 : decode cX3_firstOfSet 13 = .ok (.aaload, 1) := by decide +kernel
theorem dX3_firstOfSet_14 : decode cX3_firstOfSet 14 = .ok (.astore 5, 2) := by decide +kernel
theorem dX3_firstOfSet_16 : decode cX3_firstOfSet 16 = .ok (.aload_n 0, 1) := by decide +kernel
theorem dX3_firstOfSet_17 : decode cX3_firstOfSet 17 = .ok (.getfield 11, 3) := by decide +kernel
theorem dX3_firstOfSet_20 : decode cX3_firstOfSet 20 = .ok (.iload_n 2, 1) := by decide +kernel
theorem dX3_firstOfSet_21 : decode cX3_firstOfSet 21 = .ok (.iconst 1, 1) := by decide +kernel
theorem dX3_firstOfSet_22 : decode cX3_firstOfSet 22 = .ok (.iadd, 1) := by decide +kernel
theorem dX3_firstOfSet_23 : decode cX3_firstOfSet 23 = .ok (.aaload, 1) := by decide +kernel
theorem dX3_firstOfSet_24 : decode cX3_firstOfSet 24 = .ok (.astore 6, 2) := by decide +kernel
theorem dX3_firstOfSet_26 : decode cX3_firstOfSet 26 = .ok (.iload 4, 2) := by decide +kernel
theorem dX3_firstOfSet_28 : decode cX3_firstOfSet 28 = .ok (.istore 7, 2) := by decide +kernel
theorem dX3_firstOfSet_30 : decode cX3_firstOfSet 30 = .ok (.iload 7, 2) := by decide +kernel
theorem dX3_firstOfSet_32 : decode cX3_firstOfSet 32 = .ok (.bipush 67, 2) := by decide +kernel
theorem dX3_firstOfSet_34 : decode cX3_firstOfSet 34 = .ok (.if_icmp .gt 94, 3) := by decide +kernel
theorem dX3_firstOfSet_37 : decode cX3_firstOfSet 37 = .ok (.aload_n 1, 1) := by decide +kernel
theorem dX3_firstOfSet_38 : decode cX3_firstOfSet 38 = .ok (.iload 7, 2) := by decide +kernel
theorem dX3_firstOfSet_40 : decode cX3_firstOfSet 40 = .ok (.invokevirtual 73, 3) := by decide +kernel
theorem dX3_firstOfSet_43 : decode cX3_firstOfSet 43 = .ok (.ifCond .eq 79, 3) := by decide +kernel
theorem dX3_firstOfSet_46 : decode cX3_firstOfSet 46 = .ok (.aload 5, 2) := by decide +kernel
theorem dX3_firstOfSet_48 : decode cX3_firstOfSet 48 = .ok (.iload 7, 2) := by decide +kernel
theorem dX3_firstOfSet_50 : decode cX3_firstOfSet 50 = .ok (.invokestatic 76, 3) := by decide +kernel
theorem dX3_firstOfSet_53 : decode cX3_firstOfSet 53 = .ok (.iload 7, 2) := by decide +kernel
theorem dX3_firstOfSet_55 : decode cX3_firstOfSet 55 = .ok (.invokestatic 80, 3) := by decide +kernel
theorem dX3_firstOfSet_58 : decode cX3_firstOfSet 58 = .ok (.invokevirtual 29, 3) := by decide +kernel
theorem dX3_firstOfSet_61 : decode cX3_firstOfSet 61 = .ok (.ifCond .ne 61, 3) := by decide +kernel
theorem dX3_firstOfSet_64 : decode cX3_firstOfSet 64 = .ok (.aload 6, 2) := by decide +kernel
theorem dX3_firstOfSet_66 : decode cX3_firstOfSet 66 = .ok (.aload 5, 2) := by decide +kernel
theorem dX3_firstOfSet_68 : decode cX3_firstOfSet 68 = .ok (.invokevirtual 83, 3) := by decide +kernel
theorem dX3_firstOfSet_71 : decode cX3_firstOfSet 71 = .ok (.aload 6, 2) := by decide +kernel
theorem dX3_firstOfSet_73 : decode cX3_firstOfSet 73 = .ok (.iload 7, 2) := by decide +kernel
theorem dX3_firstOfSet_75 : decode cX3_firstOfSet 75 = .ok (.invokevirtual 56, 3) := by decide +kernel
theorem dX3_firstOfSet_78 : decode cX3_firstOfSet 78 = .ok (.aload 6, 2) := by decide +kernel
theorem dX3_firstOfSet_80 : decode cX3_firstOfSet 80 = .ok (.invokevirtual 22, 3) := by decide +kernel
theorem dX3_firstOfSet_83 : decode cX3_firstOfSet 83 = .ok (.iload_n 3, 1) := by decide +kernel
theorem dX3_firstOfSet_84 : decode cX3_firstOfSet 84 = .ok (.iconst 1, 1) := by decide +kernel
theorem dX3_firstOfSet_85 : decode cX3_firstOfSet 85 = .ok (.if_icmp .gt 14, 3) := by decide +kernel
theorem dX3_firstOfSet_88 : decode cX3_firstOfSet 88 = .ok (.aload 6, 2) := by decide +kernel
theorem dX3_firstOfSet_90 : decode cX3_firstOfSet 90 = .ok (.invokevirtual 66, 3) := by decide +kernel
theorem dX3_firstOfSet_93 : decode cX3_firstOfSet 93 = .ok (.ifCond .eq 29, 3) := by decide +kernel
theorem dX3_firstOfSet_96 : decode cX3_firstOfSet 96 = .ok (.goto 23, 3) := by decide +kernel
theorem dX3_firstOfSet_99 : decode cX3_firstOfSet 99 = .ok (.aload_n 0, 1) := by decide +kernel
theorem dX3_firstOfSet_100 : decode cX3_firstOfSet 100 = .ok (.aload_n 1, 1) := by decide +kernel
theorem dX3_firstOfSet_101 : decode cX3_firstOfSet 101 = .ok (.iload_n 2, 1) := by decide +kernel
theorem dX3_firstOfSet_102 : decode cX3_firstOfSet 102 = .ok (.iconst 1, 1) := by decide +kernel
theorem dX3_firstOfSet_103 : decode cX3_firstOfSet 103 = .ok (.iadd, 1) := by decide +kernel
theorem dX3_firstOfSet_104 : decode cX3_firstOfSet 104 = .ok (.iload_n 3, 1) := by decide +kernel
theorem dX3_firstOfSet_105 : decode cX3_firstOfSet 105 = .ok (.iconst 1, 1) := by decide +kernel
theorem dX3_firstOfSet_106 : decode cX3_firstOfSet 106 = .ok (.isub, 1) := by decide +kernel
theorem dX3_firstOfSet_107 : decode cX3_firstOfSet 107 = .ok (.iload 7, 2) := by decide +kernel
theorem dX3_firstOfSet_109 : decode cX3_firstOfSet 109 = .ok (.iconst 1, 1) := by decide +kernel
theorem dX3_firstOfSet_110 : decode cX3_firstOfSet 110 = .ok (.iadd, 1) := by decide +kernel
theorem dX3_firstOfSet_111 : decode cX3_firstOfSet 111 = .ok (.invokevirtual 69, 3) := by decide +kernel
theorem dX3_firstOfSet_114 : decode cX3_firstOfSet 114 = .ok (.bipush (-9), 2) := by decide +kernel
theorem dX3_firstOfSet_116 : decode cX3_firstOfSet 116 = .ok (.if_icmp .eq 6, 3) := by decide +kernel
theorem dX3_firstOfSet_119 : decode cX3_firstOfSet 119 = .ok (.iload 7, 2) := by decide +kernel
theorem dX3_firstOfSet_121 : decode cX3_firstOfSet 121 = .ok (.ireturn, 1) := by decide +kernel
theorem dX3_firstOfSet_122 : decode cX3_firstOfSet 122 = .ok (.iinc 7 1, 3) := by decide +kernel
