set_option maxRecDepth 20000 in
theorem ggX1_init_X0_init : GoodIn wsX1_init wsX0_init := goodIn_r _ [25, 26, 2, 3, 21, 27, 28, 29, 30, 31, 50, 51, 52, 53, 54] (by decide +kernel) (by decide +kernel)
set_option maxRecDepth 20000 in
theorem gX1_init_X0_init_n11 : GoodIn wsX1_init (wsX0_init) := ggX1_init_X0_init
set_option maxRecDepth 20000 in
theorem ggX1_init_X5_init : GoodIn wsX1_init wsX5_init := goodIn_r _ [33, 34, 2, 3, 35, 36, 37, 38, 21, 39, 40, 41, 42, 64, 65, 66, 67, 68, 69, 70, 71] (by decide +kernel) (by decide +kernel)
set_option maxRecDepth 20000 in
theorem gX1_init_X5_init_n20 : GoodIn wsX1_init (wsX5_init) := ggX1_init_X5_init
set_option maxRecDepth 20000 in
theorem ggX1_init_X3_init : GoodIn wsX1_init wsX3_init := goodIn_r _ [44, 45, 2, 3, 21, 46, 47, 48, 49, 72, 73, 74, 75] (by decide +kernel) (by decide +kernel)
set_option maxRecDepth 20000 in
theorem gX1_init_X3_init_n27 : GoodIn wsX1_init (wsX3_init) := ggX1_init_X3_init
theorem dX1_init_0 : decode cX1_init 0 = .ok (.aload_n 0, 1) := by decide +kernel
theorem dX1_init_1 : decode cX1_init 1 = .ok (.invokespecial 3, 3) := by decide +kernel
theorem dX1_init_4 : decode cX1_init 4 = .ok (.aload_n 0, 1) := by decide +kernel
theorem dX1_init_5 : decode cX1_init 5 = .ok (.new 9, 3) := by decide +kernel
theorem dX1_init_8 : decode cX1_init 8 = .ok (.dup, 1) := by decide +kernel
theorem dX1_init_9 : decode cX1_init 9 = .ok (.invokespecial 11, 3) := by decide +kernel
theorem dX1_init_12 : decode cX1_init 12 = .ok (.putfield 12, 3) := by decide +kernel
theorem dX1_init_15 : decode cX1_init 15 = .ok (.aload_n 0, 1) := by decide +kernel
theorem dX1_init_16 : decode cX1_init 16 = .ok (.new 18, 3) := by decide +kernel
theorem dX1_init_19 : decode cX1_init 19 = .ok (.dup, 1) := by decide +kernel
theorem dX1_init_20 : decode cX1_init 20 = .ok (.invokespecial 20, 3) := by decide +kernel
theorem dX1_init_23 : decode cX1_init 23 = .ok (.putfield 21, 3) := by decide +kernel
theorem dX1_init_26 : decode cX1_init 26 = .ok (.aload_n 0, 1) := by decide +kernel
theorem dX1_init_27 : decode cX1_init 27 = .ok (.new 25, 3) := by decide +kernel
theorem dX1_init_30 : decode cX1_init 30 = .ok (.dup, 1) := by decide +kernel
theorem dX1_init_31 : decode cX1_init 31 = .ok (.invokespecial 27, 3) := by decide +kernel
theorem dX1_init_34 : decode cX1_init 34 = .ok (.putfield 28, 3) := by decide +kernel
theorem dX1_init_37 : decode cX1_init 37 = .ok (.aload_n 0, 1) := by decide +kernel
theorem dX1_init_38 : decode cX1_init 38 = .ok (.iconst 0, 1) := by decide +kernel
theorem dX1_init_39 : decode cX1_init 39 = .ok (.putfield 32, 3) := by decide +kernel
theorem dX1_init_42 : decode cX1_init 42 = .ok (.aload_n 0, 1) := by decide +kernel
theorem dX1_init_43 : decode cX1_init 43 = .ok (.iconst 0, 1) := by decide +kernel
theorem dX1_init_44 : decode cX1_init 44 = .ok (.putfield 36, 3) := by decide +kernel
theorem dX1_init_47 : decode cX1_init 47 = .ok (.aload_n 0, 1) := by decide +kernel
theorem dX1_init_48 : decode cX1_init 48 = .ok (.iconst 0, 1) := by decide +kernel
theorem dX1_init_49 : decode cX1_init 49 = .ok (.putfield 39, 3) := by decide +kernel
theorem dX1_init_52 : decode cX1_init 52 = .ok (.aload_n 0, 1) := by decide +kernel
theorem dX1_init_53 : decode cX1_init 53 = .ok (.iconst 4, 1) := by decide +kernel
theorem dX1_init_54 : decode cX1_init 54 = .ok (.newarray .boolean, 2) := by decide +kernel
theorem dX1_init_56 : decode cX1_init 56 = .ok (.putfield 42, 3) := by decide +kernel
theorem dX1_init_59 : decode cX1_init 59 = .ok (.aload_n 0, 1) := by decide +kernel
theorem dX1_init_60 : decode cX1_init 60 = .ok (.bipush 80, 2) := by decide +kernel
theorem dX1_init_62 : decode cX1_init 62 = .ok (.newarray .int, 2) := by decide +kernel
theorem dX1_init_64 : decode cX1_init 64 = .ok (.putfield 46, 3) := by decide +kernel
theorem dX1_init_67 : decode cX1_init 67 = .ok (.aload_n 0, 1) := by decide +kernel
theorem dX1_init_68 : decode cX1_init 68 = .ok (.bipush 10, 2) := by decide +kernel
theorem dX1_init_70 : decode cX1_init 70 = .ok (.newarray .int, 2) := by decide +kernel
theorem dX1_init_72 : decode cX1_init 72 = .ok (.putfield 50, 3) := by decide +kernel
theorem dX1_init_75 : decode cX1_init 75 = .ok (.return_, 1) := by decide +kernel
set_option maxRecDepth 20000 in
theorem ggX1_measure_X5_measure : GoodIn wsX1_measure wsX5_measure := goodIn_r _ [8, 9, 10, 11, 12, 13, 14, 15, 16, 17, 18, 19, 7, 20, 21, 22, 23, 24, 25, 26, 27, 28, 29, 30, 31, 32, 33, 34, 35, 36, 37, 38, 39, 40, 41, 42, 43, 44, 45, 46, 47, 48, 77, 78, 79, 80, 81, 82, 83, 84, 85, 86, 87, 88, 89] (by decide +kernel) (by decide +kernel)
set_option maxRecDepth 20000 in
theorem gX1_measure_X5_measure : GoodIn wsX1_measure (wsV RX1 53 RX5 yX5_measure wsX5_measure) := goodIn_app (goodIn_of _ (by decide +kernel)) ggX1_measure_X5_measure
set_option maxRecDepth 20000 in
theorem ggX1_measure_X3_measure : GoodIn wsX1_measure wsX3_measure := goodIn_r _ [53, 54, 55, 56, 57, 58, 59, 60, 14, 15, 16, 61, 62, 52, 63, 64, 65, 66, 67, 90, 91, 92, 93, 85, 86, 87, 88, 89] (by decide +kernel) (by decide +kernel)
set_option maxRecDepth 20000 in
theorem gX1_measure_X3_measure : GoodIn wsX1_measure (wsV RX1 57 RX3 yX3_measure wsX3_measure) := goodIn_app (goodIn_of _ (by decide +kernel)) ggX1_measure_X3_measure
theorem dX1_measure_0 : decode cX1_measure 0 = .ok (.aload_n 0, 1) := by decide +kernel
theorem dX1_measure_1 : decode cX1_measure 1 = .ok (.getfield 21, 3) := by decide +kernel
theorem dX1_measure_4 : decode cX1_measure 4 = .ok (.aload_n 0, 1) := by decide +kernel
theorem dX1_measure_5 : decode cX1_measure 5 = .ok (.getfield 12, 3) := by decide +kernel
theorem dX1_measure_8 : decode cX1_measure 8 = .ok (.invokevirtual 53, 3) := by decide +kernel
theorem dX1_measure_11 : decode cX1_measure 11 = .ok (.aload_n 0, 1) := by decide +kernel
theorem dX1_measure_12 : decode cX1_measure 12 = .ok (.getfield 28, 3) := by decide +kernel
theorem dX1_measure_15 : decode cX1_measure 15 = .ok (.aload_n 0, 1) := by decide +kernel
theorem dX1_measure_16 : decode cX1_measure 16 = .ok (.getfield 12, 3) := by decide +kernel
theorem dX1_measure_19 : decode cX1_measure 19 = .ok (.invokevirtual 57, 3) := by decide +kernel
theorem dX1_measure_22 : decode cX1_measure 22 = .ok (.return_, 1) := by decide +kernel
set_option maxRecDepth 20000 in
theorem ggX1_may_X1_loneMay : GoodIn wsX1_may wsX1_loneMay := goodIn_r _ [7, 1, 8, 9, 10, 11, 12, 13, 14, 15, 16, 17, 18, 19, 20, 21, 22, 23, 24, 25, 26, 27, 28, 29, 30, 31, 44, 45, 46, 47, 48, 49, 50, 51, 52, 53, 54, 55, 56, 57, 58, 59, 60, 61, 62, 63, 64, 65, 66, 67, 68, 69] (by decide +kernel) (by decide +kernel)
set_option maxRecDepth 20000 in
theorem gX1_may_X1_loneMay : GoodIn wsX1_may (wsV RX1 61 RX1 yX1_loneMay wsX1_loneMay) := goodIn_app (goodIn_of _ (by decide +kernel)) ggX1_may_X1_loneMay
set_option maxRecDepth 20000 in
theorem ggX1_may_X1_twinsMay : GoodIn wsX1_may wsX1_twinsMay := goodIn_r _ [35, 1, 2, 8, 9, 11, 12, 13, 14, 15, 16, 17, 18, 36, 37, 38, 39, 40, 41, 42, 43, 19, 20, 21, 22, 23, 24, 25, 26, 27, 28, 29, 30, 31, 44, 45, 46, 47, 48, 49, 50, 51, 52, 53, 54, 55, 56, 57, 58, 59, 60, 61, 62, 63, 64, 65, 66, 67, 68, 69] (by decide +kernel) (by decide +kernel)
set_option maxRecDepth 20000 in
theorem gX1_may_X1_twinsMay : GoodIn wsX1_may (wsV RX1 65 RX1 yX1_twinsMay wsX1_twinsMay) := goodIn_app (goodIn_of _ (by decide +kernel)) ggX1_may_X1_twinsMay
theorem dX1_may_0 : decode cX1_may 0 = .ok (.aload_n 0, 1) := by decide +kernel
theorem dX1_may_1 : decode cX1_may 1 = .ok (.getfield 12, 3) := by decide +kernel
theorem dX1_may_4 : decode cX1_may 4 = .ok (.getfield 58, 3) := by decide +kernel
theorem dX1_may_7 : decode cX1_may 7 = .ok (.iload_n 1, 1) := by decide +kernel
theorem dX1_may_8 : decode cX1_may 8 = .ok (.iaload, 1) := by decide +kernel
theorem dX1_may_9 : decode cX1_may 9 = .ok (.istore_n 2, 1) := by decide +kernel
theorem dX1_may_10 : decode cX1_may 10 = .ok (.iload_n 2, 1) := by decide +kernel
theorem dX1_may_11 : decode cX1_may 11 = .ok (.ifCond .ne 11, 3) := by decide +kernel
theorem dX1_may_14 : decode cX1_may 14 = .ok (.aload_n 0, 1) := by decide +kernel
theorem dX1_may_15 : decode cX1_may 15 = .ok (.iload_n 1, 1) := by decide +kernel
theorem dX1_may_16 : decode cX1_may 16 = .ok (.invokevirtual 61, 3) := by decide +kernel
theorem dX1_may_19 : decode cX1_may 19 = .ok (.goto 9, 3) := by decide +kernel
theorem dX1_may_22 : decode cX1_may 22 = .ok (.aload_n 0, 1) := by decide +kernel
theorem dX1_may_23 : decode cX1_may 23 = .ok (.iload_n 2, 1) := by decide +kernel
theorem dX1_may_24 : decode cX1_may 24 = .ok (.iload_n 1, 1) := by decide +kernel
theorem dX1_may_25 : decode cX1_may 25 = .ok (.invokevirtual 65, 3) := by decide +kernel
theorem dX1_may_28 : decode cX1_may 28 = .ok (.ireturn, 1) := by decide +kernel
set_option maxRecDepth 20000 in
theorem ggX1_loneMay_X0_room : GoodIn wsX1_loneMay wsX0_room := goodIn_r _ [10, 11, 12, 35, 36, 37, 38, 39] (by decide +kernel) (by decide +kernel)
set_option maxRecDepth 20000 in
theorem gX1_loneMay_X0_room : GoodIn wsX1_loneMay (wsV RX1 72 RX0 yX0_room wsX0_room) := goodIn_app (goodIn_of _ (by decide +kernel)) ggX1_loneMay_X0_room
set_option maxRecDepth 20000 in
theorem ggX1_loneMay_X3_bear : GoodIn wsX1_loneMay wsX3_bear := goodIn_r _ [17, 18, 19, 20, 21, 22, 16, 23, 24, 25, 48, 49, 50, 51] (by decide +kernel) (by decide +kernel)
set_option maxRecDepth 20000 in
theorem gX1_loneMay_X3_bear : GoodIn wsX1_loneMay (wsV RX1 79 RX3 yX3_bear wsX3_bear) := goodIn_app (goodIn_of _ (by decide +kernel)) ggX1_loneMay_X3_bear
theorem dX1_loneMay_0 : decode cX1_loneMay 0 = .ok (.aload_n 0, 1) := by decide +kernel
theorem dX1_loneMay_1 : decode cX1_loneMay 1 = .ok (.getfield 12, 3) := by decide +kernel
theorem dX1_loneMay_4 : decode cX1_loneMay 4 = .ok (.getfield 69, 3) := by decide +kernel
theorem dX1_loneMay_7 : decode cX1_loneMay 7 = .ok (.iload_n 1, 1) := by decide +kernel
theorem dX1_loneMay_8 : decode cX1_loneMay 8 = .ok (.iaload, 1) := by decide +kernel
theorem dX1_loneMay_9 : decode cX1_loneMay 9 = .ok (.aload_n 0, 1) := by decide +kernel
theorem dX1_loneMay_10 : decode cX1_loneMay 10 = .ok (.getfield 12, 3) := by decide +kernel
theorem dX1_loneMay_13 : decode cX1_loneMay 13 = .ok (.iload_n 1, 1) := by decide +kernel
theorem dX1_loneMay_14 : decode cX1_loneMay 14 = .ok (.invokevirtual 72, 3) := by decide +kernel
theorem dX1_loneMay_17 : decode cX1_loneMay 17 = .ok (.if_icmp .ge 31, 3) := by decide +kernel
theorem dX1_loneMay_20 : decode cX1_loneMay 20 = .ok (.aload_n 0, 1) := by decide +kernel
theorem dX1_loneMay_21 : decode cX1_loneMay 21 = .ok (.getfield 21, 3) := by decide +kernel
theorem dX1_loneMay_24 : decode cX1_loneMay 24 = .ok (.getfield 76, 3) := by decide +kernel
theorem dX1_loneMay_27 : decode cX1_loneMay 27 = .ok (.iload_n 1, 1) := by decide +kernel
theorem dX1_loneMay_28 : decode cX1_loneMay 28 = .ok (.iaload, 1) := by decide +kernel
theorem dX1_loneMay_29 : decode cX1_loneMay 29 = .ok (.ifCond .ne 19, 3) := by decide +kernel
theorem dX1_loneMay_32 : decode cX1_loneMay 32 = .ok (.aload_n 0, 1) := by decide +kernel
theorem dX1_loneMay_33 : decode cX1_loneMay 33 = .ok (.getfield 28, 3) := by decide +kernel
theorem dX1_loneMay_36 : decode cX1_loneMay 36 = .ok (.iload_n 1, 1) := by decide +kernel
theorem dX1_loneMay_37 : decode cX1_loneMay 37 = .ok (.iconst 0, 1) := by decide +kernel
theorem dX1_loneMay_38 : decode cX1_loneMay 38 = .ok (.invokevirtual 79, 3) := by decide +kernel
theorem dX1_loneMay_41 : decode cX1_loneMay 41 = .ok (.ifCond .eq 7, 3) := by decide +kernel
theorem dX1_loneMay_44 : decode cX1_loneMay 44 = .ok (.iconst 1, 1) := by decide +kernel
theorem dX1_loneMay_45 : decode cX1_loneMay 45 = .ok (.goto 4, 3) := by decide +kernel
theorem dX1_loneMay_48 : decode cX1_loneMay 48 = .ok (.iconst 0, 1) := by decide +kernel
theorem dX1_loneMay_49 : decode cX1_loneMay 49 = .ok (.ireturn, 1) := by decide +kernel
set_option maxRecDepth 20000 in
theorem ggX1_twinsMay_X0_room : GoodIn wsX1_twinsMay wsX0_room := goodIn_r _ [10, 11, 12, 43, 44, 45, 46, 47] (by decide +kernel) (by decide +kernel)
set_option maxRecDepth 20000 in
theorem gX1_twinsMay_X0_room : GoodIn wsX1_twinsMay (wsV RX1 72 RX0 yX0_room wsX0_room) := goodIn_app (goodIn_of _ (by decide +kernel)) ggX1_twinsMay_X0_room
set_option maxRecDepth 20000 in
theorem ggX1_twinsMay_X5_bearTwins : GoodIn wsX1_twinsMay wsX5_bearTwins := goodIn_r _ [17, 18, 19, 20, 48, 49, 50, 51, 52, 53, 54, 55] (by decide +kernel) (by decide +kernel)
set_option maxRecDepth 20000 in
theorem gX1_twinsMay_X5_bearTwins : GoodIn wsX1_twinsMay (wsV RX1 82 RX5 yX5_bearTwins wsX5_bearTwins) := goodIn_app (goodIn_of _ (by decide +kernel)) ggX1_twinsMay_X5_bearTwins
set_option maxRecDepth 20000 in
theorem ggX1_twinsMay_X3_bear : GoodIn wsX1_twinsMay wsX3_bear := goodIn_r _ [25, 26, 27, 28, 29, 30, 24, 31, 32, 33, 56, 57, 58, 59] (by decide +kernel) (by decide +kernel)
set_option maxRecDepth 20000 in
theorem gX1_twinsMay_X3_bear : GoodIn wsX1_twinsMay (wsV RX1 79 RX3 yX3_bear wsX3_bear) := goodIn_app (goodIn_of _ (by decide +kernel)) ggX1_twinsMay_X3_bear
theorem dX1_twinsMay_0 : decode cX1_twinsMay 0 = .ok (.iconst 0, 1) := by decide +kernel
theorem dX1_twinsMay_1 : decode cX1_twinsMay 1 = .ok (.istore_n 3, 1) := by decide +kernel
theorem dX1_twinsMay_2 : decode cX1_twinsMay 2 = .ok (.iload_n 3, 1) := by decide +kernel
theorem dX1_twinsMay_3 : decode cX1_twinsMay 3 = .ok (.bipush 80, 2) := by decide +kernel
theorem dX1_twinsMay_5 : decode cX1_twinsMay 5 = .ok (.if_icmp .ge 44, 3) := by decide +kernel
theorem dX1_twinsMay_8 : decode cX1_twinsMay 8 = .ok (.aload_n 0, 1) := by decide +kernel
theorem dX1_twinsMay_9 : decode cX1_twinsMay 9 = .ok (.getfield 12, 3) := by decide +kernel
theorem dX1_twinsMay_12 : decode cX1_twinsMay 12 = .ok (.getfield 58, 3) := by decide +kernel
theorem dX1_twinsMay_15 : decode cX1_twinsMay 15 = .ok (.iload_n 3, 1) := by decide +kernel
theorem dX1_twinsMay_16 : decode cX1_twinsMay 16 = .ok (.iaload, 1) := by decide +kernel
theorem dX1_twinsMay_17 : decode cX1_twinsMay 17 = .ok (.iload_n 1, 1) := by decide +kernel
theorem dX1_twinsMay_18 : decode cX1_twinsMay 18 = .ok (.if_icmp .ne 25, 3) := by decide +kernel
theorem dX1_twinsMay_21 : decode cX1_twinsMay 21 = .ok (.aload_n 0, 1) := by decide +kernel
theorem dX1_twinsMay_22 : decode cX1_twinsMay 22 = .ok (.getfield 12, 3) := by decide +kernel
theorem dX1_twinsMay_25 : decode cX1_twinsMay 25 = .ok (.getfield 69, 3) := by decide +kernel
theorem dX1_twinsMay_28 : decode cX1_twinsMay 28 = .ok (.iload_n 3, 1) := by decide +kernel
theorem dX1_twinsMay_29 : decode cX1_twinsMay 29 = .ok (.iaload, 1) := by decide +kernel
theorem dX1_twinsMay_30 : decode cX1_twinsMay 30 = .ok (.aload_n 0, 1) := by decide +kernel
theorem dX1_twinsMay_31 : decode cX1_twinsMay 31 = .ok (.getfield 12, 3) := by decide +kernel
theorem dX1_twinsMay_34 : decode cX1_twinsMay 34 = .ok (.iload_n 3, 1) := by decide +kernel
theorem dX1_twinsMay_35 : decode cX1_twinsMay 35 = .ok (.invokevirtual 72, 3) := by decide +kernel
theorem dX1_twinsMay_38 : decode cX1_twinsMay 38 = .ok (.if_icmp .lt 5, 3) := by decide +kernel
theorem dX1_twinsMay_41 : decode cX1_twinsMay 41 = .ok (.iconst 0, 1) := by decide +kernel
theorem dX1_twinsMay_42 : decode cX1_twinsMay 42 = .ok (.ireturn, 1) := by decide +kernel
theorem dX1_twinsMay_43 : decode cX1_twinsMay 43 = .ok (.iinc 3 1, 3) := by decide +kernel
theorem dX1_twinsMay_46 : decode cX1_twinsMay 46 = .ok (.goto (-44), 3) := by decide +kernel
theorem dX1_twinsMay_49 : decode cX1_twinsMay 49 = .ok (.aload_n 0, 1) := by decide +kernel
theorem dX1_twinsMay_50 : decode cX1_twinsMay 50 = .ok (.getfield 21, 3) := by decide +kernel
theorem dX1_twinsMay_53 : decode cX1_twinsMay 53 = .ok (.iload_n 1, 1) := by decide +kernel
theorem dX1_twinsMay_54 : decode cX1_twinsMay 54 = .ok (.invokevirtual 82, 3) := by decide +kernel
theorem dX1_twinsMay_57 : decode cX1_twinsMay 57 = .ok (.ifCond .eq 19, 3) := by decide +kernel
theorem dX1_twinsMay_60 : decode cX1_twinsMay 60 = .ok (.aload_n 0, 1) := by decide +kernel
theorem dX1_twinsMay_61 : decode cX1_twinsMay 61 = .ok (.getfield 28, 3) := by decide +kernel
theorem dX1_twinsMay_64 : decode cX1_twinsMay 64 = .ok (.iload_n 2, 1) := by decide +kernel
theorem dX1_twinsMay_65 : decode cX1_twinsMay 65 = .ok (.iload_n 1, 1) := by decide +kernel
theorem dX1_twinsMay_66 : decode cX1_twinsMay 66 = .ok (.invokevirtual 79, 3) := by decide +kernel
theorem dX1_twinsMay_69 : decode cX1_twinsMay 69 = .ok (.ifCond .eq 7, 3) := by decide +kernel
theorem dX1_twinsMay_72 : decode cX1_twinsMay 72 = .ok (.iconst 1, 1) := by decide +kernel
theorem dX1_twinsMay_73 : decode cX1_twinsMay 73 = .ok (.goto 4, 3) := by decide +kernel
theorem dX1_twinsMay_76 : decode cX1_twinsMay 76 = .ok (.iconst 0, 1) := by decide +kernel
theorem dX1_twinsMay_77 : decode cX1_twinsMay 77 = .ok (.ireturn, 1) := by decide +kernel
set_option maxRecDepth 20000 in
theorem ggX1_choice_X5_atLeast : GoodIn wsX1_choice wsX5_atLeast := goodIn_r _ [6, 7, 99, 100, 101, 102, 103, 104, 105, 106] (by decide +kernel) (by decide +kernel)
set_option maxRecDepth 20000 in
theorem gX1_choice_X5_atLeast : GoodIn wsX1_choice (wsV RX1 85 RX5 yX5_atLeast wsX5_atLeast) := goodIn_app (goodIn_of _ (by decide +kernel)) ggX1_choice_X5_atLeast
set_option maxRecDepth 20000 in
theorem ggX1_choice_X5_isThin : GoodIn wsX1_choice wsX5_isThin := goodIn_r _ [11, 7, 12, 99, 100, 101, 102, 103, 104, 105, 106] (by decide +kernel) (by decide +kernel)
set_option maxRecDepth 20000 in
theorem gX1_choice_X5_isThin : GoodIn wsX1_choice (wsV RX1 89 RX5 yX5_isThin wsX5_isThin) := goodIn_app (goodIn_of _ (by decide +kernel)) ggX1_choice_X5_isThin
set_option maxRecDepth 20000 in
theorem ggX1_choice_X1_chooseTwins : GoodIn wsX1_choice wsX1_chooseTwins := goodIn_r _ [17, 18, 19, 20, 21, 16, 22, 23, 24, 25, 26, 27, 28, 1, 29, 30, 31, 32, 5, 33, 34, 35, 36, 37, 38, 39, 40, 41, 42, 43, 44, 45, 46, 47, 48, 49, 50, 51, 52, 53, 7, 54, 55, 56, 57, 58, 59, 60, 61, 62, 63, 64, 65, 66, 67, 90, 91, 92, 93, 94, 95, 96, 97, 98, 107, 108, 109, 110, 111, 99, 100, 101, 102, 103, 104, 105, 106, 112, 113, 114, 115] (by decide +kernel) (by decide +kernel)
set_option maxRecDepth 20000 in
theorem gX1_choice_X1_chooseTwins : GoodIn wsX1_choice (wsV RX1 92 RX1 yX1_chooseTwins wsX1_chooseTwins) := goodIn_app (goodIn_of _ (by decide +kernel)) ggX1_choice_X1_chooseTwins
set_option maxRecDepth 20000 in
theorem ggX1_choice_X1_isChosen : GoodIn wsX1_choice wsX1_isChosen := goodIn_r _ [71, 23, 24, 18, 25, 26, 27, 16, 28, 1, 29, 30, 31, 32, 5, 33, 34, 35, 72, 73, 74, 75, 40, 76, 41, 42, 43, 44, 45, 46, 47, 48, 55, 56, 57, 58, 59, 60, 61, 62, 63, 64, 65, 66, 67, 90, 91, 92, 93, 94, 95, 96, 97, 98, 107, 108, 109, 110, 111, 99, 100, 101, 102, 103, 104, 105, 106, 112, 113, 114, 115] (by decide +kernel) (by decide +kernel)
set_option maxRecDepth 20000 in
theorem gX1_choice_X1_isChosen : GoodIn wsX1_choice (wsV RX1 96 RX1 yX1_isChosen wsX1_isChosen) := goodIn_app (goodIn_of _ (by decide +kernel)) ggX1_choice_X1_isChosen
set_option maxRecDepth 20000 in
theorem ggX1_choice_X1_rank : GoodIn wsX1_choice wsX1_rank := goodIn_r _ [80, 23, 1, 29, 41, 24, 81, 82, 83, 45, 84, 48, 85, 86, 87, 88, 58, 89, 62, 63, 64, 65, 66, 67, 90, 91, 92, 93, 94, 95, 96, 97, 98, 99, 100, 101, 102, 103, 104, 105, 106, 107, 108, 109, 110, 111, 112, 113, 114, 115] (by decide +kernel) (by decide +kernel)
set_option maxRecDepth 20000 in
theorem gX1_choice_X1_rank : GoodIn wsX1_choice (wsV RX1 99 RX1 yX1_rank wsX1_rank) := goodIn_app (goodIn_of _ (by decide +kernel)) ggX1_choice_X1_rank
theorem dX1_choice_0 : decode cX1_choice 0 = .ok (.iconst (-1), 1) := by decide +kernel
theorem dX1_choice_1 : decode cX1_choice 1 = .ok (.istore_n 2, 1) := by decide +kernel
theorem dX1_choice_2 : decode cX1_choice 2 = .ok (.iload_n 1, 1) := by decide +kernel
theorem dX1_choice_3 : decode cX1_choice 3 = .ok (.iconst 4, 1) := by decide +kernel
theorem dX1_choice_4 : decode cX1_choice 4 = .ok (.if_icmp .ne 24, 3) := by decide +kernel
theorem dX1_choice_7 : decode cX1_choice 7 = .ok (.aload_n 0, 1) := by decide +kernel
theorem dX1_choice_8 : decode cX1_choice 8 = .ok (.getfield 21, 3) := by decide +kernel
theorem dX1_choice_11 : decode cX1_choice 11 = .ok (.invokevirtual 85, 3) := by decide +kernel
theorem dX1_choice_14 : decode cX1_choice 14 = .ok (.istore_n 2, 1) := by decide +kernel
theorem dX1_choice_15 : decode cX1_choice 15 = .ok (.aload_n 0, 1) := by decide +kernel
theorem dX1_choice_16 : decode cX1_choice 16 = .ok (.getfield 21, 3) := by decide +kernel
theorem dX1_choice_19 : decode cX1_choice 19 = .ok (.iload_n 2, 1) := by decide +kernel
theorem dX1_choice_20 : decode cX1_choice 20 = .ok (.invokevirtual 89, 3) := by decide +kernel
theorem dX1_choice_23 : decode cX1_choice 23 = .ok (.ifCond .ne 5, 3) := by decide +kernel
theorem dX1_choice_26 : decode cX1_choice 26 = .ok (.iconst (-1), 1) := by decide +kernel
theorem dX1_choice_27 : decode cX1_choice 27 = .ok (.ireturn, 1) := by decide +kernel
theorem dX1_choice_28 : decode cX1_choice 28 = .ok (.aload_n 0, 1) := by decide +kernel
theorem dX1_choice_29 : decode cX1_choice 29 = .ok (.iload_n 2, 1) := by decide +kernel
theorem dX1_choice_30 : decode cX1_choice 30 = .ok (.invokevirtual 92, 3) := by decide +kernel
theorem dX1_choice_33 : decode cX1_choice 33 = .ok (.iconst (-1), 1) := by decide +kernel
theorem dX1_choice_34 : decode cX1_choice 34 = .ok (.istore_n 3, 1) := by decide +kernel
theorem dX1_choice_35 : decode cX1_choice 35 = .ok (.iconst 0, 1) := by decide +kernel
theorem dX1_choice_36 : decode cX1_choice 36 = .ok (.istore 4, 2) := by decide +kernel
theorem dX1_choice_38 : decode cX1_choice 38 = .ok (.iconst 0, 1) := by decide +kernel
theorem dX1_choice_39 : decode cX1_choice 39 = .ok (.istore 5, 2) := by decide +kernel
theorem dX1_choice_41 : decode cX1_choice 41 = .ok (.iload 5, 2) := by decide +kernel
theorem dX1_choice_43 : decode cX1_choice 43 = .ok (.bipush 80, 2) := by decide +kernel
theorem dX1_choice_45 : decode cX1_choice 45 = .ok (.if_icmp .ge 47, 3) := by decide +kernel
theorem dX1_choice_48 : decode cX1_choice 48 = .ok (.aload_n 0, 1) := by decide +kernel
theorem dX1_choice_49 : decode cX1_choice 49 = .ok (.iload 5, 2) := by decide +kernel
theorem dX1_choice_51 : decode cX1_choice 51 = .ok (.iload_n 2, 1) := by decide +kernel
theorem dX1_choice_52 : decode cX1_choice 52 = .ok (.invokevirtual 96, 3) := by decide +kernel
theorem dX1_choice_55 : decode cX1_choice 55 = .ok (.ifCond .eq 31, 3) := by decide +kernel
theorem dX1_choice_58 : decode cX1_choice 58 = .ok (.aload_n 0, 1) := by decide +kernel
theorem dX1_choice_59 : decode cX1_choice 59 = .ok (.iload_n 1, 1) := by decide +kernel
theorem dX1_choice_60 : decode cX1_choice 60 = .ok (.iload 5, 2) := by decide +kernel
theorem dX1_choice_62 : decode cX1_choice 62 = .ok (.invokevirtual 99, 3) := by decide +kernel
theorem dX1_choice_65 : decode cX1_choice 65 = .ok (.istore 6, 2) := by decide +kernel
theorem dX1_choice_67 : decode cX1_choice 67 = .ok (.iload_n 3, 1) := by decide +kernel
theorem dX1_choice_68 : decode cX1_choice 68 = .ok (.iconst (-1), 1) := by decide +kernel
theorem dX1_choice_69 : decode cX1_choice 69 = .ok (.if_icmp .eq 10, 3) := by decide +kernel
theorem dX1_choice_72 : decode cX1_choice 72 = .ok (.iload 6, 2) := by decide +kernel
theorem dX1_choice_74 : decode cX1_choice 74 = .ok (.iload 4, 2) := by decide +kernel
theorem dX1_choice_76 : decode cX1_choice 76 = .ok (.if_icmp .ge 10, 3) := by decide +kernel
theorem dX1_choice_79 : decode cX1_choice 79 = .ok (.iload 5, 2) := by decide +kernel
theorem dX1_choice_81 : decode cX1_choice 81 = .ok (.istore_n 3, 1) := by decide +kernel
theorem dX1_choice_82 : decode cX1_choice 82 = .ok (.iload 6, 2) := by decide +kernel
theorem dX1_choice_84 : decode cX1_choice 84 = .ok (.istore 4, 2) := by decide +kernel
theorem dX1_choice_86 : decode cX1_choice 86 = .ok (.iinc 5 1, 3) := by decide +kernel
theorem dX1_choice_89 : decode cX1_choice 89 = .ok (.goto (-48), 3) := by decide +kernel
theorem dX1_choice_92 : decode cX1_choice 92 = .ok (.iload_n 3, 1) := by decide +kernel
theorem dX1_choice_93 : decode cX1_choice 93 = .ok (.ireturn, 1) := by decide +kernel
set_option maxRecDepth 20000 in
theorem ggX1_chooseTwins_X1_wantedTwin : GoodIn wsX1_chooseTwins wsX1_wantedTwin := goodIn_r _ [6, 7, 8, 9, 10, 11, 5, 12, 13, 14, 15, 16, 17, 18, 19, 20, 21, 55, 56, 57, 58, 59, 60, 61, 62, 63, 64, 65, 66, 67, 68, 69, 70, 71, 72, 73, 74, 75, 76] (by decide +kernel) (by decide +kernel)
set_option maxRecDepth 20000 in
theorem gX1_chooseTwins_X1_wantedTwin : GoodIn wsX1_chooseTwins (wsV RX1 103 RX1 yX1_wantedTwin wsX1_wantedTwin) := goodIn_app (goodIn_of _ (by decide +kernel)) ggX1_chooseTwins_X1_wantedTwin
set_option maxRecDepth 20000 in
theorem ggX1_chooseTwins_X1_twinsMay : GoodIn wsX1_chooseTwins wsX1_twinsMay := goodIn_r _ [25, 7, 8, 26, 13, 27, 28, 29, 30, 31, 32, 33, 34, 35, 36, 37, 18, 38, 39, 40, 41, 42, 43, 44, 45, 46, 47, 48, 49, 50, 51, 52, 53, 54, 55, 56, 57, 58, 59, 60, 61, 62, 63, 64, 65, 66, 67, 68, 69, 70, 71, 72, 73, 74, 75, 76, 77, 78, 79, 80] (by decide +kernel) (by decide +kernel)
set_option maxRecDepth 20000 in
theorem gX1_chooseTwins_X1_twinsMay : GoodIn wsX1_chooseTwins (wsV RX1 65 RX1 yX1_twinsMay wsX1_twinsMay) := goodIn_app (goodIn_of _ (by decide +kernel)) ggX1_chooseTwins_X1_twinsMay
theorem dX1_chooseTwins_0 : decode cX1_chooseTwins 0 = .ok (.iconst 1, 1) := by decide +kernel
theorem dX1_chooseTwins_1 : decode cX1_chooseTwins 1 = .ok (.istore_n 2, 1) := by decide +kernel
theorem dX1_chooseTwins_2 : decode cX1_chooseTwins 2 = .ok (.iload_n 2, 1) := by decide +kernel
theorem dX1_chooseTwins_3 : decode cX1_chooseTwins 3 = .ok (.iconst 4, 1) := by decide +kernel
theorem dX1_chooseTwins_4 : decode cX1_chooseTwins 4 = .ok (.if_icmp .ge 41, 3) := by decide +kernel
theorem dX1_chooseTwins_7 : decode cX1_chooseTwins 7 = .ok (.aload_n 0, 1) := by decide +kernel
theorem dX1_chooseTwins_8 : decode cX1_chooseTwins 8 = .ok (.iload_n 2, 1) := by decide +kernel
theorem dX1_chooseTwins_9 : decode cX1_chooseTwins 9 = .ok (.iload_n 1, 1) := by decide +kernel
theorem dX1_chooseTwins_10 : decode cX1_chooseTwins 10 = .ok (.invokevirtual 103, 3) := by decide +kernel
theorem dX1_chooseTwins_13 : decode cX1_chooseTwins 13 = .ok (.istore_n 3, 1) := by decide +kernel
theorem dX1_chooseTwins_14 : decode cX1_chooseTwins 14 = .ok (.aload_n 0, 1) := by decide +kernel
theorem dX1_chooseTwins_15 : decode cX1_chooseTwins 15 = .ok (.getfield 42, 3) := by decide +kernel
theorem dX1_chooseTwins_18 : decode cX1_chooseTwins 18 = .ok (.iload_n 2, 1) := by decide +kernel
theorem dX1_chooseTwins_19 : decode cX1_chooseTwins 19 = .ok (.iload_n 3, 1) := by decide +kernel
theorem dX1_chooseTwins_20 : decode cX1_chooseTwins 20 = .ok (.iconst (-1), 1) := by decide +kernel
theorem dX1_chooseTwins_21 : decode cX1_chooseTwins 21 = .ok (.if_icmp .eq 16, 3) := by decide +kernel
theorem dX1_chooseTwins_24 : decode cX1_chooseTwins 24 = .ok (.aload_n 0, 1) := by decide +kernel
theorem dX1_chooseTwins_25 : decode cX1_chooseTwins 25 = .ok (.iload_n 2, 1) := by decide +kernel
theorem dX1_chooseTwins_26 : decode cX1_chooseTwins 26 = .ok (.iload_n 3, 1) := by decide +kernel
theorem dX1_chooseTwins_27 : decode cX1_chooseTwins 27 = .ok (.invokevirtual 65, 3) := by decide +kernel
theorem dX1_chooseTwins_30 : decode cX1_chooseTwins 30 = .ok (.ifCond .eq 7, 3) := by decide +kernel
theorem dX1_chooseTwins_33 : decode cX1_chooseTwins 33 = .ok (.iconst 1, 1) := by decide +kernel
theorem dX1_chooseTwins_34 : decode cX1_chooseTwins 34 = .ok (.goto 4, 3) := by decide +kernel
theorem dX1_chooseTwins_37 : decode cX1_chooseTwins 37 = .ok (.iconst 0, 1) := by decide +kernel
theorem dX1_chooseTwins_38 : decode cX1_chooseTwins 38 = .ok (.bastore, 1) := by decide +kernel
theorem dX1_chooseTwins_39 : decode cX1_chooseTwins 39 = .ok (.iinc 2 1, 3) := by decide +kernel
theorem dX1_chooseTwins_42 : decode cX1_chooseTwins 42 = .ok (.goto (-40), 3) := by decide +kernel
theorem dX1_chooseTwins_45 : decode cX1_chooseTwins 45 = .ok (.return_, 1) := by decide +kernel
set_option maxRecDepth 20000 in
theorem ggX1_wantedTwin_X1_isWanted : GoodIn wsX1_wantedTwin wsX1_isWanted := goodIn_r _ [7, 8, 9, 10, 11, 12, 13, 14, 15, 16, 17, 18, 19, 20, 21, 22, 23, 24, 25, 31, 32, 33, 34, 35, 36, 37, 38] (by decide +kernel) (by decide +kernel)
set_option maxRecDepth 20000 in
theorem gX1_wantedTwin_X1_isWanted : GoodIn wsX1_wantedTwin (wsV RX1 106 RX1 yX1_isWanted wsX1_isWanted) := goodIn_app (goodIn_of _ (by decide +kernel)) ggX1_wantedTwin_X1_isWanted
theorem dX1_wantedTwin_0 : decode cX1_wantedTwin 0 = .ok (.iconst 0, 1) := by decide +kernel
theorem dX1_wantedTwin_1 : decode cX1_wantedTwin 1 = .ok (.istore_n 3, 1) := by decide +kernel
theorem dX1_wantedTwin_2 : decode cX1_wantedTwin 2 = .ok (.iload_n 3, 1) := by decide +kernel
theorem dX1_wantedTwin_3 : decode cX1_wantedTwin 3 = .ok (.bipush 80, 2) := by decide +kernel
theorem dX1_wantedTwin_5 : decode cX1_wantedTwin 5 = .ok (.if_icmp .ge 33, 3) := by decide +kernel
theorem dX1_wantedTwin_8 : decode cX1_wantedTwin 8 = .ok (.aload_n 0, 1) := by decide +kernel
theorem dX1_wantedTwin_9 : decode cX1_wantedTwin 9 = .ok (.getfield 12, 3) := by decide +kernel
theorem dX1_wantedTwin_12 : decode cX1_wantedTwin 12 = .ok (.getfield 58, 3) := by decide +kernel
theorem dX1_wantedTwin_15 : decode cX1_wantedTwin 15 = .ok (.iload_n 3, 1) := by decide +kernel
theorem dX1_wantedTwin_16 : decode cX1_wantedTwin 16 = .ok (.iaload, 1) := by decide +kernel
theorem dX1_wantedTwin_17 : decode cX1_wantedTwin 17 = .ok (.iload_n 1, 1) := by decide +kernel
theorem dX1_wantedTwin_18 : decode cX1_wantedTwin 18 = .ok (.if_icmp .ne 14, 3) := by decide +kernel
theorem dX1_wantedTwin_21 : decode cX1_wantedTwin 21 = .ok (.aload_n 0, 1) := by decide +kernel
theorem dX1_wantedTwin_22 : decode cX1_wantedTwin 22 = .ok (.iload_n 3, 1) := by decide +kernel
theorem dX1_wantedTwin_23 : decode cX1_wantedTwin 23 = .ok (.iload_n 2, 1) := by decide +kernel
theorem dX1_wantedTwin_24 : decode cX1_wantedTwin 24 = .ok (.invokevirtual 106, 3) := by decide +kernel
theorem dX1_wantedTwin_27 : decode cX1_wantedTwin 27 = .ok (.ifCond .eq 5, 3) := by decide +kernel
theorem dX1_wantedTwin_30 : decode cX1_wantedTwin 30 = .ok (.iload_n 3, 1) := by decide +kernel
theorem dX1_wantedTwin_31 : decode cX1_wantedTwin 31 = .ok (.ireturn, 1) := by decide +kernel
theorem dX1_wantedTwin_32 : decode cX1_wantedTwin 32 = .ok (.iinc 3 1, 3) := by decide +kernel
theorem dX1_wantedTwin_35 : decode cX1_wantedTwin 35 = .ok (.goto (-33), 3) := by decide +kernel
theorem dX1_wantedTwin_38 : decode cX1_wantedTwin 38 = .ok (.iconst (-1), 1) := by decide +kernel
theorem dX1_wantedTwin_39 : decode cX1_wantedTwin 39 = .ok (.ireturn, 1) := by decide +kernel
set_option maxRecDepth 20000 in
theorem ggX1_isWanted_X5_has : GoodIn wsX1_isWanted wsX5_has := goodIn_r _ [7, 8, 9, 19, 20, 21, 22, 23, 24, 25, 26] (by decide +kernel) (by decide +kernel)
set_option maxRecDepth 20000 in
theorem gX1_isWanted_X5_has : GoodIn wsX1_isWanted (wsV RX1 112 RX5 yX5_has wsX5_has) := goodIn_app (goodIn_of _ (by decide +kernel)) ggX1_isWanted_X5_has
theorem dX1_isWanted_0 : decode cX1_isWanted 0 = .ok (.iload_n 2, 1) := by decide +kernel
theorem dX1_isWanted_1 : decode cX1_isWanted 1 = .ok (.iconst (-1), 1) := by decide +kernel
theorem dX1_isWanted_2 : decode cX1_isWanted 2 = .ok (.if_icmp .ne 23, 3) := by decide +kernel
theorem dX1_isWanted_5 : decode cX1_isWanted 5 = .ok (.aload_n 0, 1) := by decide +kernel
theorem dX1_isWanted_6 : decode cX1_isWanted 6 = .ok (.getfield 21, 3) := by decide +kernel
theorem dX1_isWanted_9 : decode cX1_isWanted 9 = .ok (.getfield 109, 3) := by decide +kernel
theorem dX1_isWanted_12 : decode cX1_isWanted 12 = .ok (.iload_n 1, 1) := by decide +kernel
theorem dX1_isWanted_13 : decode cX1_isWanted 13 = .ok (.iaload, 1) := by decide +kernel
theorem dX1_isWanted_14 : decode cX1_isWanted 14 = .ok (.ifCond .le 7, 3) := by decide +kernel
theorem dX1_isWanted_17 : decode cX1_isWanted 17 = .ok (.iconst 1, 1) := by decide +kernel
theorem dX1_isWanted_18 : decode cX1_isWanted 18 = .ok (.goto 16, 3) := by decide +kernel
theorem dX1_isWanted_21 : decode cX1_isWanted 21 = .ok (.iconst 0, 1) := by decide +kernel
theorem dX1_isWanted_22 : decode cX1_isWanted 22 = .ok (.goto 12, 3) := by decide +kernel
theorem dX1_isWanted_25 : decode cX1_isWanted 25 = .ok (.aload_n 0, 1) := by decide +kernel
theorem dX1_isWanted_26 : decode cX1_isWanted 26 = .ok (.getfield 21, 3) := by decide +kernel
theorem dX1_isWanted_29 : decode cX1_isWanted 29 = .ok (.iload_n 2, 1) := by decide +kernel
theorem dX1_isWanted_30 : decode cX1_isWanted 30 = .ok (.iload_n 1, 1) := by decide +kernel
theorem dX1_isWanted_31 : decode cX1_isWanted 31 = .ok (.invokevirtual 112, 3) := by decide +kernel
theorem dX1_isWanted_34 : decode cX1_isWanted 34 = .ok (.ireturn, 1) := by decide +kernel
set_option maxRecDepth 20000 in
theorem ggX1_isChosen_X1_isWanted : GoodIn wsX1_isChosen wsX1_isWanted := goodIn_r _ [8, 9, 10, 11, 12, 13, 14, 15, 16, 17, 45, 46, 47, 48, 49, 50, 51, 52, 53, 59, 60, 61, 62, 63, 64, 65, 66] (by decide +kernel) (by decide +kernel)
set_option maxRecDepth 20000 in
theorem gX1_isChosen_X1_isWanted : GoodIn wsX1_isChosen (wsV RX1 106 RX1 yX1_isWanted wsX1_isWanted) := goodIn_app (goodIn_of _ (by decide +kernel)) ggX1_isChosen_X1_isWanted
set_option maxRecDepth 20000 in
theorem ggX1_isChosen_X1_loneMay : GoodIn wsX1_isChosen wsX1_loneMay := goodIn_r _ [21, 1, 22, 9, 23, 24, 25, 26, 27, 28, 29, 30, 31, 32, 33, 34, 35, 36, 37, 38, 39, 40, 41, 42, 43, 44, 45, 46, 47, 48, 49, 50, 51, 52, 53, 54, 55, 56, 57, 58, 59, 60, 61, 62, 63, 64, 65, 66, 67, 68, 69, 70] (by decide +kernel) (by decide +kernel)
set_option maxRecDepth 20000 in
theorem gX1_isChosen_X1_loneMay : GoodIn wsX1_isChosen (wsV RX1 61 RX1 yX1_loneMay wsX1_loneMay) := goodIn_app (goodIn_of _ (by decide +kernel)) ggX1_isChosen_X1_loneMay
theorem dX1_isChosen_0 : decode cX1_isChosen 0 = .ok (.aload_n 0, 1) := by decide +kernel
theorem dX1_isChosen_1 : decode cX1_isChosen 1 = .ok (.getfield 12, 3) := by decide +kernel
theorem dX1_isChosen_4 : decode cX1_isChosen 4 = .ok (.getfield 58, 3) := by decide +kernel
theorem dX1_isChosen_7 : decode cX1_isChosen 7 = .ok (.iload_n 1, 1) := by decide +kernel
theorem dX1_isChosen_8 : decode cX1_isChosen 8 = .ok (.iaload, 1) := by decide +kernel
theorem dX1_isChosen_9 : decode cX1_isChosen 9 = .ok (.istore_n 3, 1) := by decide +kernel
theorem dX1_isChosen_10 : decode cX1_isChosen 10 = .ok (.iload_n 3, 1) := by decide +kernel
theorem dX1_isChosen_11 : decode cX1_isChosen 11 = .ok (.ifCond .ne 28, 3) := by decide +kernel
theorem dX1_isChosen_14 : decode cX1_isChosen 14 = .ok (.aload_n 0, 1) := by decide +kernel
theorem dX1_isChosen_15 : decode cX1_isChosen 15 = .ok (.iload_n 1, 1) := by decide +kernel
theorem dX1_isChosen_16 : decode cX1_isChosen 16 = .ok (.iload_n 2, 1) := by decide +kernel
theorem dX1_isChosen_17 : decode cX1_isChosen 17 = .ok (.invokevirtual 106, 3) := by decide +kernel
theorem dX1_isChosen_20 : decode cX1_isChosen 20 = .ok (.ifCond .eq 15, 3) := by decide +kernel
theorem dX1_isChosen_23 : decode cX1_isChosen 23 = .ok (.aload_n 0, 1) := by decide +kernel
theorem dX1_isChosen_24 : decode cX1_isChosen 24 = .ok (.iload_n 1, 1) := by decide +kernel
theorem dX1_isChosen_25 : decode cX1_isChosen 25 = .ok (.invokevirtual 61, 3) := by decide +kernel
theorem dX1_isChosen_28 : decode cX1_isChosen 28 = .ok (.ifCond .eq 7, 3) := by decide +kernel
theorem dX1_isChosen_31 : decode cX1_isChosen 31 = .ok (.iconst 1, 1) := by decide +kernel
theorem dX1_isChosen_32 : decode cX1_isChosen 32 = .ok (.goto 13, 3) := by decide +kernel
theorem dX1_isChosen_35 : decode cX1_isChosen 35 = .ok (.iconst 0, 1) := by decide +kernel
theorem dX1_isChosen_36 : decode cX1_isChosen 36 = .ok (.goto 9, 3) := by decide +kernel
theorem dX1_isChosen_39 : decode cX1_isChosen 39 = .ok (.aload_n 0, 1) := by decide +kernel
theorem dX1_isChosen_40 : decode cX1_isChosen 40 = .ok (.getfield 42, 3) := by decide +kernel
theorem dX1_isChosen_43 : decode cX1_isChosen 43 = .ok (.iload_n 3, 1) := by decide +kernel
theorem dX1_isChosen_44 : decode cX1_isChosen 44 = .ok (.baload, 1) := by decide +kernel
theorem dX1_isChosen_45 : decode cX1_isChosen 45 = .ok (.ireturn, 1) := by decide +kernel
set_option maxRecDepth 20000 in
theorem ggX1_rank_X0_sumOf : GoodIn wsX1_rank wsX0_sumOf := goodIn_r _ [10, 11, 12, 41, 42, 43, 44, 45] (by decide +kernel) (by decide +kernel)
set_option maxRecDepth 20000 in
theorem gX1_rank_X0_sumOf : GoodIn wsX1_rank (wsV RX1 115 RX0 yX0_sumOf wsX0_sumOf) := goodIn_app (goodIn_of _ (by decide +kernel)) ggX1_rank_X0_sumOf
set_option maxRecDepth 20000 in
theorem ggX1_rank_X3_gainOfAll : GoodIn wsX1_rank wsX3_gainOfAll := goodIn_r _ [17, 18, 19, 20, 16, 21, 22, 23, 46, 47, 48, 49] (by decide +kernel) (by decide +kernel)
set_option maxRecDepth 20000 in
theorem gX1_rank_X3_gainOfAll : GoodIn wsX1_rank (wsV RX1 118 RX3 yX3_gainOfAll wsX3_gainOfAll) := goodIn_app (goodIn_of _ (by decide +kernel)) ggX1_rank_X3_gainOfAll
theorem dX1_rank_0 : decode cX1_rank 0 = .ok (.iload_n 1, 1) := by decide +kernel
theorem dX1_rank_1 : decode cX1_rank 1 = .ok (.tableswitch 65 1 3 #[27, 36, 47], 27) := by decide +kernel
theorem dX1_rank_28 : decode cX1_rank 28 = .ok (.aload_n 0, 1) := by decide +kernel
theorem dX1_rank_29 : decode cX1_rank 29 = .ok (.getfield 12, 3) := by decide +kernel
theorem dX1_rank_32 : decode cX1_rank 32 = .ok (.iload_n 2, 1) := by decide +kernel
theorem dX1_rank_33 : decode cX1_rank 33 = .ok (.invokevirtual 115, 3) := by decide +kernel
theorem dX1_rank_36 : decode cX1_rank 36 = .ok (.ireturn, 1) := by decide +kernel
theorem dX1_rank_37 : decode cX1_rank 37 = .ok (.aload_n 0, 1) := by decide +kernel
theorem dX1_rank_38 : decode cX1_rank 38 = .ok (.getfield 21, 3) := by decide +kernel
theorem dX1_rank_41 : decode cX1_rank 41 = .ok (.getfield 109, 3) := by decide +kernel
theorem dX1_rank_44 : decode cX1_rank 44 = .ok (.iload_n 2, 1) := by decide +kernel
theorem dX1_rank_45 : decode cX1_rank 45 = .ok (.iaload, 1) := by decide +kernel
theorem dX1_rank_46 : decode cX1_rank 46 = .ok (.ineg, 1) := by decide +kernel
theorem dX1_rank_47 : decode cX1_rank 47 = .ok (.ireturn, 1) := by decide +kernel
theorem dX1_rank_48 : decode cX1_rank 48 = .ok (.aload_n 0, 1) := by decide +kernel
theorem dX1_rank_49 : decode cX1_rank 49 = .ok (.getfield 28, 3) := by decide +kernel
theorem dX1_rank_52 : decode cX1_rank 52 = .ok (.iload_n 2, 1) := by decide +kernel
theorem dX1_rank_53 : decode cX1_rank 53 = .ok (.aload_n 0, 1) := by decide +kernel
theorem dX1_rank_54 : decode cX1_rank 54 = .ok (.getfield 12, 3) := by decide +kernel
theorem dX1_rank_57 : decode cX1_rank 57 = .ok (.getfield 58, 3) := by decide +kernel
theorem dX1_rank_60 : decode cX1_rank 60 = .ok (.iload_n 2, 1) := by decide +kernel
theorem dX1_rank_61 : decode cX1_rank 61 = .ok (.iaload, 1) := by decide +kernel
theorem dX1_rank_62 : decode cX1_rank 62 = .ok (.invokevirtual 118, 3) := by decide +kernel
theorem dX1_rank_65 : decode cX1_rank 65 = .ok (.ireturn, 1) := by decide +kernel
theorem dX1_rank_66 : decode cX1_rank 66 = .ok (.iconst 0, 1) := by decide +kernel
theorem dX1_rank_67 : decode cX1_rank 67 = .ok (.ireturn, 1) := by decide +kernel
set_option maxRecDepth 20000 in
theorem ggX1_change_X5_shift : GoodIn wsX1_change wsX5_shift := goodIn_r _ [10, 11, 12, 13, 14, 15, 16, 17, 18, 19, 20, 21, 22, 9, 23, 24, 25, 26, 27, 28, 29, 30, 31, 32, 33, 34, 35, 36, 37, 38, 39, 40, 62, 63, 64, 65, 66, 67, 68, 69] (by decide +kernel) (by decide +kernel)
set_option maxRecDepth 20000 in
theorem gX1_change_X5_shift : GoodIn wsX1_change (wsV RX1 121 RX5 yX5_shift wsX5_shift) := goodIn_app (goodIn_of _ (by decide +kernel)) ggX1_change_X5_shift
set_option maxRecDepth 20000 in
theorem ggX1_change_X3_shift : GoodIn wsX1_change wsX3_shift := goodIn_r _ [45, 46, 47, 70, 71, 72, 73] (by decide +kernel) (by decide +kernel)
set_option maxRecDepth 20000 in
theorem gX1_change_X3_shift : GoodIn wsX1_change (wsV RX1 125 RX3 yX3_shift wsX3_shift) := goodIn_app (goodIn_of _ (by decide +kernel)) ggX1_change_X3_shift
theorem dX1_change_0 : decode cX1_change 0 = .ok (.aload_n 0, 1) := by decide +kernel
theorem dX1_change_1 : decode cX1_change 1 = .ok (.getfield 12, 3) := by decide +kernel
theorem dX1_change_4 : decode cX1_change 4 = .ok (.getfield 58, 3) := by decide +kernel
theorem dX1_change_7 : decode cX1_change 7 = .ok (.iload_n 1, 1) := by decide +kernel
theorem dX1_change_8 : decode cX1_change 8 = .ok (.iaload, 1) := by decide +kernel
theorem dX1_change_9 : decode cX1_change 9 = .ok (.istore_n 3, 1) := by decide +kernel
theorem dX1_change_10 : decode cX1_change 10 = .ok (.iconst 0, 1) := by decide +kernel
theorem dX1_change_11 : decode cX1_change 11 = .ok (.istore 4, 2) := by decide +kernel
theorem dX1_change_13 : decode cX1_change 13 = .ok (.iload 4, 2) := by decide +kernel
theorem dX1_change_15 : decode cX1_change 15 = .ok (.bipush 80, 2) := by decide +kernel
theorem dX1_change_17 : decode cX1_change 17 = .ok (.if_icmp .ge 67, 3) := by decide +kernel
theorem dX1_change_20 : decode cX1_change 20 = .ok (.iload 4, 2) := by decide +kernel
theorem dX1_change_22 : decode cX1_change 22 = .ok (.iload_n 1, 1) := by decide +kernel
theorem dX1_change_23 : decode cX1_change 23 = .ok (.if_icmp .eq 21, 3) := by decide +kernel
theorem dX1_change_26 : decode cX1_change 26 = .ok (.iload_n 3, 1) := by decide +kernel
theorem dX1_change_27 : decode cX1_change 27 = .ok (.ifCond .eq 51, 3) := by decide +kernel
theorem dX1_change_30 : decode cX1_change 30 = .ok (.aload_n 0, 1) := by decide +kernel
theorem dX1_change_31 : decode cX1_change 31 = .ok (.getfield 12, 3) := by decide +kernel
theorem dX1_change_34 : decode cX1_change 34 = .ok (.getfield 58, 3) := by decide +kernel
theorem dX1_change_37 : decode cX1_change 37 = .ok (.iload 4, 2) := by decide +kernel
theorem dX1_change_39 : decode cX1_change 39 = .ok (.iaload, 1) := by decide +kernel
theorem dX1_change_40 : decode cX1_change 40 = .ok (.iload_n 3, 1) := by decide +kernel
theorem dX1_change_41 : decode cX1_change 41 = .ok (.if_icmp .ne 37, 3) := by decide +kernel
theorem dX1_change_44 : decode cX1_change 44 = .ok (.aload_n 0, 1) := by decide +kernel
theorem dX1_change_45 : decode cX1_change 45 = .ok (.getfield 12, 3) := by decide +kernel
theorem dX1_change_48 : decode cX1_change 48 = .ok (.getfield 69, 3) := by decide +kernel
theorem dX1_change_51 : decode cX1_change 51 = .ok (.iload 4, 2) := by decide +kernel
theorem dX1_change_53 : decode cX1_change 53 = .ok (.dup2, 1) := by decide +kernel
theorem dX1_change_54 : decode cX1_change 54 = .ok (.iaload, 1) := by decide +kernel
theorem dX1_change_55 : decode cX1_change 55 = .ok (.iload_n 2, 1) := by decide +kernel
theorem dX1_change_56 : decode cX1_change 56 = .ok (.iadd, 1) := by decide +kernel
theorem dX1_change_57 : decode cX1_change 57 = .ok (.iastore, 1) := by decide +kernel
theorem dX1_change_58 : decode cX1_change 58 = .ok (.aload_n 0, 1) := by decide +kernel
theorem dX1_change_59 : decode cX1_change 59 = .ok (.getfield 21, 3) := by decide +kernel
theorem dX1_change_62 : decode cX1_change 62 = .ok (.iload 4, 2) := by decide +kernel
theorem dX1_change_64 : decode cX1_change 64 = .ok (.iload_n 2, 1) := by decide +kernel
theorem dX1_change_65 : decode cX1_change 65 = .ok (.invokevirtual 121, 3) := by decide +kernel
theorem dX1_change_68 : decode cX1_change 68 = .ok (.aload_n 0, 1) := by decide +kernel
theorem dX1_change_69 : decode cX1_change 69 = .ok (.getfield 28, 3) := by decide +kernel
theorem dX1_change_72 : decode cX1_change 72 = .ok (.iload 4, 2) := by decide +kernel
theorem dX1_change_74 : decode cX1_change 74 = .ok (.iload_n 2, 1) := by decide +kernel
theorem dX1_change_75 : decode cX1_change 75 = .ok (.invokevirtual 125, 3) := by decide +kernel
theorem dX1_change_78 : decode cX1_change 78 = .ok (.iinc 4 1, 3) := by decide +kernel
theorem dX1_change_81 : decode cX1_change 81 = .ok (.goto (-68), 3) := by decide +kernel
theorem dX1_change_84 : decode cX1_change 84 = .ok (.return_, 1) := by decide +kernel
set_option maxRecDepth 20000 in
theorem ggX1_stepOn_X1_choice : GoodIn wsX1_stepOn wsX1_choice := goodIn_r _ [5, 6, 7, 8, 9, 10, 11, 12, 13, 14, 15, 16, 17, 18, 19, 20, 4, 21, 22, 23, 24, 25, 26, 27, 28, 29, 30, 31, 32, 33, 34, 35, 36, 37, 38, 39, 40, 41, 42, 43, 44, 45, 46, 47, 48, 49, 50, 51, 52, 53, 54, 55, 56, 57, 58, 59, 60, 61, 62, 63, 64, 65, 66, 67, 68, 69, 70, 71, 72, 73, 74, 75, 76, 77, 78, 79, 80, 81, 82, 83, 84, 85, 86, 87, 88, 89, 90, 91, 92, 93, 128, 129, 130, 131, 132, 133, 134, 135, 136, 137, 138, 139, 140, 141, 142, 143, 144, 145, 146, 147, 148, 149, 150, 151, 152, 153] (by decide +kernel) (by decide +kernel)
set_option maxRecDepth 20000 in
theorem gX1_stepOn_X1_choice : GoodIn wsX1_stepOn (wsV RX1 126 RX1 yX1_choice wsX1_choice) := goodIn_app (goodIn_of _ (by decide +kernel)) ggX1_stepOn_X1_choice
set_option maxRecDepth 20000 in
theorem ggX1_stepOn_X1_change : GoodIn wsX1_stepOn wsX1_change := goodIn_r _ [97, 27, 28, 44, 6, 45, 98, 99, 100, 10, 101, 38, 102, 103, 104, 105, 39, 106, 107, 108, 109, 110, 111, 112, 12, 113, 114, 115, 14, 15, 16, 17, 116, 117, 118, 119, 58, 120, 121, 122, 123, 124, 125, 126, 62, 127, 70, 64, 128, 129, 130, 131, 132, 133, 134, 135, 136, 145, 146, 147, 148, 149, 137, 138, 139, 140, 141, 142, 143, 144, 150, 151, 152, 153] (by decide +kernel) (by decide +kernel)
set_option maxRecDepth 20000 in
theorem gX1_stepOn_X1_change : GoodIn wsX1_stepOn (wsV RX1 129 RX1 yX1_change wsX1_change) := goodIn_app (goodIn_of _ (by decide +kernel)) ggX1_stepOn_X1_change
theorem dX1_stepOn_0 : decode cX1_stepOn 0 = .ok (.iconst 0, 1) := by decide +kernel
theorem dX1_stepOn_1 : decode cX1_stepOn 1 = .ok (.istore_n 3, 1) := by decide +kernel
theorem dX1_stepOn_2 : decode cX1_stepOn 2 = .ok (.iload_n 3, 1) := by decide +kernel
theorem dX1_stepOn_3 : decode cX1_stepOn 3 = .ok (.iload_n 2, 1) := by decide +kernel
theorem dX1_stepOn_4 : decode cX1_stepOn 4 = .ok (.if_icmp .ge 31, 3) := by decide +kernel
theorem dX1_stepOn_7 : decode cX1_stepOn 7 = .ok (.aload_n 0, 1) := by decide +kernel
theorem dX1_stepOn_8 : decode cX1_stepOn 8 = .ok (.iload_n 1, 1) := by decide +kernel
theorem dX1_stepOn_9 : decode cX1_stepOn 9 = .ok (.invokevirtual 126, 3) := by decide +kernel
theorem dX1_stepOn_12 : decode cX1_stepOn 12 = .ok (.istore 4, 2) := by decide +kernel
theorem dX1_stepOn_14 : decode cX1_stepOn 14 = .ok (.iload 4, 2) := by decide +kernel
theorem dX1_stepOn_16 : decode cX1_stepOn 16 = .ok (.iconst (-1), 1) := by decide +kernel
theorem dX1_stepOn_17 : decode cX1_stepOn 17 = .ok (.if_icmp .ne 5, 3) := by decide +kernel
theorem dX1_stepOn_20 : decode cX1_stepOn 20 = .ok (.iload_n 3, 1) := by decide +kernel
theorem dX1_stepOn_21 : decode cX1_stepOn 21 = .ok (.ireturn, 1) := by decide +kernel
theorem dX1_stepOn_22 : decode cX1_stepOn 22 = .ok (.aload_n 0, 1) := by decide +kernel
theorem dX1_stepOn_23 : decode cX1_stepOn 23 = .ok (.iload 4, 2) := by decide +kernel
theorem dX1_stepOn_25 : decode cX1_stepOn 25 = .ok (.iconst 1, 1) := by decide +kernel
theorem dX1_stepOn_26 : decode cX1_stepOn 26 = .ok (.invokevirtual 129, 3) := by decide +kernel
theorem dX1_stepOn_29 : decode cX1_stepOn 29 = .ok (.iinc 3 1, 3) := by decide +kernel
theorem dX1_stepOn_32 : decode cX1_stepOn 32 = .ok (.goto (-30), 3) := by decide +kernel
theorem dX1_stepOn_35 : decode cX1_stepOn 35 = .ok (.iload_n 2, 1) := by decide +kernel
theorem dX1_stepOn_36 : decode cX1_stepOn 36 = .ok (.ireturn, 1) := by decide +kernel
set_option maxRecDepth 20000 in
theorem ggX1_thinOut_X6_total : GoodIn wsX1_thinOut wsX6_total := goodIn_r _ [11] (by decide +kernel) (by decide +kernel)
set_option maxRecDepth 20000 in
theorem gX1_thinOut_X6_total_n132 : GoodIn wsX1_thinOut (wsX6_total) := ggX1_thinOut_X6_total
set_option maxRecDepth 20000 in
theorem ggX1_thinOut_X5_slack : GoodIn wsX1_thinOut wsX5_slack := goodIn_r _ [16, 17, 18, 19, 6, 7, 8, 20, 21, 22, 15, 23, 24, 25, 26, 27, 28, 29, 30, 84, 85, 86, 87, 88, 89, 90, 91] (by decide +kernel) (by decide +kernel)
set_option maxRecDepth 20000 in
theorem gX1_thinOut_X5_slack : GoodIn wsX1_thinOut (wsV RX1 136 RX5 yX5_slack wsX5_slack) := goodIn_app (goodIn_of _ (by decide +kernel)) ggX1_thinOut_X5_slack
set_option maxRecDepth 20000 in
theorem ggX1_thinOut_X1_change : GoodIn wsX1_thinOut wsX1_change := goodIn_r _ [35, 1, 4, 2, 3, 36, 37, 38, 39, 15, 40, 29, 19, 6, 7, 8, 30, 41, 42, 43, 44, 45, 46, 47, 17, 48, 49, 50, 51, 52, 53, 18, 54, 55, 56, 57, 58, 59, 60, 61, 62, 63, 64, 65, 66, 67, 68, 69, 70, 71, 72, 73, 74, 75, 76, 77, 78, 79, 80, 81, 82, 83, 84, 85, 86, 87, 88, 89, 90, 91, 92, 93, 94, 95] (by decide +kernel) (by decide +kernel)
set_option maxRecDepth 20000 in
theorem gX1_thinOut_X1_change : GoodIn wsX1_thinOut (wsV RX1 129 RX1 yX1_change wsX1_change) := goodIn_app (goodIn_of _ (by decide +kernel)) ggX1_thinOut_X1_change
theorem dX1_thinOut_0 : decode cX1_thinOut 0 = .ok (.aload_n 0, 1) := by decide +kernel
theorem dX1_thinOut_1 : decode cX1_thinOut 1 = .ok (.getfield 12, 3) := by decide +kernel
theorem dX1_thinOut_4 : decode cX1_thinOut 4 = .ok (.getfield 69, 3) := by decide +kernel
theorem dX1_thinOut_7 : decode cX1_thinOut 7 = .ok (.invokestatic 132, 3) := by decide +kernel
theorem dX1_thinOut_10 : decode cX1_thinOut 10 = .ok (.istore_n 1, 1) := by decide +kernel
theorem dX1_thinOut_11 : decode cX1_thinOut 11 = .ok (.bipush 79, 2) := by decide +kernel
theorem dX1_thinOut_13 : decode cX1_thinOut 13 = .ok (.istore_n 2, 1) := by decide +kernel
theorem dX1_thinOut_14 : decode cX1_thinOut 14 = .ok (.iload_n 2, 1) := by decide +kernel
theorem dX1_thinOut_15 : decode cX1_thinOut 15 = .ok (.ifCond .lt 62, 3) := by decide +kernel
theorem dX1_thinOut_18 : decode cX1_thinOut 18 = .ok (.aload_n 0, 1) := by decide +kernel
theorem dX1_thinOut_19 : decode cX1_thinOut 19 = .ok (.getfield 12, 3) := by decide +kernel
theorem dX1_thinOut_22 : decode cX1_thinOut 22 = .ok (.getfield 69, 3) := by decide +kernel
theorem dX1_thinOut_25 : decode cX1_thinOut 25 = .ok (.iload_n 2, 1) := by decide +kernel
theorem dX1_thinOut_26 : decode cX1_thinOut 26 = .ok (.iaload, 1) := by decide +kernel
theorem dX1_thinOut_27 : decode cX1_thinOut 27 = .ok (.ifCond .le 44, 3) := by decide +kernel
theorem dX1_thinOut_30 : decode cX1_thinOut 30 = .ok (.aload_n 0, 1) := by decide +kernel
theorem dX1_thinOut_31 : decode cX1_thinOut 31 = .ok (.getfield 12, 3) := by decide +kernel
theorem dX1_thinOut_34 : decode cX1_thinOut 34 = .ok (.getfield 69, 3) := by decide +kernel
theorem dX1_thinOut_37 : decode cX1_thinOut 37 = .ok (.iload_n 2, 1) := by decide +kernel
theorem dX1_thinOut_38 : decode cX1_thinOut 38 = .ok (.iaload, 1) := by decide +kernel
theorem dX1_thinOut_39 : decode cX1_thinOut 39 = .ok (.aload_n 0, 1) := by decide +kernel
theorem dX1_thinOut_40 : decode cX1_thinOut 40 = .ok (.getfield 21, 3) := by decide +kernel
theorem dX1_thinOut_43 : decode cX1_thinOut 43 = .ok (.iload_n 2, 1) := by decide +kernel
theorem dX1_thinOut_44 : decode cX1_thinOut 44 = .ok (.aload_n 0, 1) := by decide +kernel
theorem dX1_thinOut_45 : decode cX1_thinOut 45 = .ok (.getfield 12, 3) := by decide +kernel
theorem dX1_thinOut_48 : decode cX1_thinOut 48 = .ok (.getfield 58, 3) := by decide +kernel
theorem dX1_thinOut_51 : decode cX1_thinOut 51 = .ok (.iload_n 2, 1) := by decide +kernel
theorem dX1_thinOut_52 : decode cX1_thinOut 52 = .ok (.iaload, 1) := by decide +kernel
theorem dX1_thinOut_53 : decode cX1_thinOut 53 = .ok (.invokevirtual 136, 3) := by decide +kernel
theorem dX1_thinOut_56 : decode cX1_thinOut 56 = .ok (.invokestatic 139, 3) := by decide +kernel
theorem dX1_thinOut_59 : decode cX1_thinOut 59 = .ok (.istore_n 3, 1) := by decide +kernel
theorem dX1_thinOut_60 : decode cX1_thinOut 60 = .ok (.iload_n 3, 1) := by decide +kernel
theorem dX1_thinOut_61 : decode cX1_thinOut 61 = .ok (.ifCond .le 10, 3) := by decide +kernel
theorem dX1_thinOut_64 : decode cX1_thinOut 64 = .ok (.aload_n 0, 1) := by decide +kernel
theorem dX1_thinOut_65 : decode cX1_thinOut 65 = .ok (.iload_n 2, 1) := by decide +kernel
theorem dX1_thinOut_66 : decode cX1_thinOut 66 = .ok (.iload_n 3, 1) := by decide +kernel
theorem dX1_thinOut_67 : decode cX1_thinOut 67 = .ok (.ineg, 1) := by decide +kernel
theorem dX1_thinOut_68 : decode cX1_thinOut 68 = .ok (.invokevirtual 129, 3) := by decide +kernel
theorem dX1_thinOut_71 : decode cX1_thinOut 71 = .ok (.iinc 2 (-1), 3) := by decide +kernel
theorem dX1_thinOut_74 : decode cX1_thinOut 74 = .ok (.goto (-60), 3) := by decide +kernel
theorem dX1_thinOut_77 : decode cX1_thinOut 77 = .ok (.iload_n 1, 1) := by decide +kernel
theorem dX1_thinOut_78 : decode cX1_thinOut 78 = .ok (.aload_n 0, 1) := by decide +kernel
theorem dX1_thinOut_79 : decode cX1_thinOut 79 = .ok (.getfield 12, 3) := by decide +kernel
theorem dX1_thinOut_82 : decode cX1_thinOut 82 = .ok (.getfield 69, 3) := by decide +kernel
theorem dX1_thinOut_85 : decode cX1_thinOut 85 = .ok (.invokestatic 132, 3) := by decide +kernel
theorem dX1_thinOut_88 : decode cX1_thinOut 88 = .ok (.isub, 1) := by decide +kernel
theorem dX1_thinOut_89 : decode cX1_thinOut 89 = .ok (.ireturn, 1) := by decide +kernel
theorem dX1_markFill_0 : decode cX1_markFill 0 = .ok (.aload_n 0, 1) := by decide +kernel
theorem dX1_markFill_1 : decode cX1_markFill 1 = .ok (.getfield 12, 3) := by decide +kernel
theorem dX1_markFill_4 : decode cX1_markFill 4 = .ok (.getfield 69, 3) := by decide +kernel
theorem dX1_markFill_7 : decode cX1_markFill 7 = .ok (.iconst 0, 1) := by decide +kernel
theorem dX1_markFill_8 : decode cX1_markFill 8 = .ok (.aload_n 0, 1) := by decide +kernel
theorem dX1_markFill_9 : decode cX1_markFill 9 = .ok (.getfield 46, 3) := by decide +kernel
theorem dX1_markFill_12 : decode cX1_markFill 12 = .ok (.iconst 0, 1) := by decide +kernel
theorem dX1_markFill_13 : decode cX1_markFill 13 = .ok (.bipush 80, 2) := by decide +kernel
theorem dX1_markFill_15 : decode cX1_markFill 15 = .ok (.invokestatic 144, 3) := by decide +kernel
theorem dX1_markFill_18 : decode cX1_markFill 18 = .ok (.return_, 1) := by decide +kernel
set_option maxRecDepth 20000 in
theorem ggX1_layBack_X1_measure : GoodIn wsX1_layBack wsX1_measure := goodIn_r _ [12, 13, 2, 14, 15, 16, 17, 18, 19, 20, 21, 22, 23, 24, 25, 26, 27, 28, 29, 30, 31, 32, 33, 34, 35, 36, 37, 38, 39, 40, 41, 42, 43, 44, 45, 46, 47, 48, 49, 50, 51, 52, 53, 54, 55, 56, 57, 58, 59, 60, 61, 62, 63, 64, 65, 66, 67, 68, 69, 70, 71, 72, 73, 74, 75, 76, 77, 78, 79, 80, 81, 82, 83, 84, 85, 86, 87, 93, 94, 95, 96, 97, 98, 99, 100, 88, 89, 90, 91, 92, 101, 102, 103, 104] (by decide +kernel) (by decide +kernel)
set_option maxRecDepth 20000 in
theorem gX1_layBack_X1_measure : GoodIn wsX1_layBack (wsV RX1 150 RX1 yX1_measure wsX1_measure) := goodIn_app (goodIn_of _ (by decide +kernel)) ggX1_layBack_X1_measure
theorem dX1_layBack_0 : decode cX1_layBack 0 = .ok (.aload_n 0, 1) := by decide +kernel
theorem dX1_layBack_1 : decode cX1_layBack 1 = .ok (.getfield 46, 3) := by decide +kernel
theorem dX1_layBack_4 : decode cX1_layBack 4 = .ok (.iconst 0, 1) := by decide +kernel
theorem dX1_layBack_5 : decode cX1_layBack 5 = .ok (.aload_n 0, 1) := by decide +kernel
theorem dX1_layBack_6 : decode cX1_layBack 6 = .ok (.getfield 12, 3) := by decide +kernel
theorem dX1_layBack_9 : decode cX1_layBack 9 = .ok (.getfield 69, 3) := by decide +kernel
theorem dX1_layBack_12 : decode cX1_layBack 12 = .ok (.iconst 0, 1) := by decide +kernel
theorem dX1_layBack_13 : decode cX1_layBack 13 = .ok (.bipush 80, 2) := by decide +kernel
theorem dX1_layBack_15 : decode cX1_layBack 15 = .ok (.invokestatic 144, 3) := by decide +kernel
theorem dX1_layBack_18 : decode cX1_layBack 18 = .ok (.aload_n 0, 1) := by decide +kernel
theorem dX1_layBack_19 : decode cX1_layBack 19 = .ok (.invokevirtual 150, 3) := by decide +kernel
theorem dX1_layBack_22 : decode cX1_layBack 22 = .ok (.return_, 1) := by decide +kernel
set_option maxRecDepth 20000 in
theorem ggX1_rate_X5_countThin : GoodIn wsX1_rate wsX5_countThin := goodIn_r _ [11, 12, 13, 14, 10, 15, 16, 17, 35, 36, 37, 38, 39, 40, 41, 42] (by decide +kernel) (by decide +kernel)
set_option maxRecDepth 20000 in
theorem gX1_rate_X5_countThin : GoodIn wsX1_rate (wsV RX1 152 RX5 yX5_countThin wsX5_countThin) := goodIn_app (goodIn_of _ (by decide +kernel)) ggX1_rate_X5_countThin
set_option maxRecDepth 20000 in
theorem ggX1_rate_X6_total : GoodIn wsX1_rate wsX6_total := goodIn_r _ [20] (by decide +kernel) (by decide +kernel)
set_option maxRecDepth 20000 in
theorem gX1_rate_X6_total_n132 : GoodIn wsX1_rate (wsX6_total) := ggX1_rate_X6_total
theorem dX1_rate_0 : decode cX1_rate 0 = .ok (.aload_n 0, 1) := by decide +kernel
theorem dX1_rate_1 : decode cX1_rate 1 = .ok (.getfield 21, 3) := by decide +kernel
theorem dX1_rate_4 : decode cX1_rate 4 = .ok (.invokevirtual 152, 3) := by decide +kernel
theorem dX1_rate_7 : decode cX1_rate 7 = .ok (.istore_n 2, 1) := by decide +kernel
theorem dX1_rate_8 : decode cX1_rate 8 = .ok (.aload_n 0, 1) := by decide +kernel
theorem dX1_rate_9 : decode cX1_rate 9 = .ok (.getfield 12, 3) := by decide +kernel
theorem dX1_rate_12 : decode cX1_rate 12 = .ok (.getfield 69, 3) := by decide +kernel
theorem dX1_rate_15 : decode cX1_rate 15 = .ok (.invokestatic 132, 3) := by decide +kernel
theorem dX1_rate_18 : decode cX1_rate 18 = .ok (.istore_n 3, 1) := by decide +kernel
theorem dX1_rate_19 : decode cX1_rate 19 = .ok (.iload_n 1, 1) := by decide +kernel
theorem dX1_rate_20 : decode cX1_rate 20 = .ok (.ifCond .eq 27, 3) := by decide +kernel
theorem dX1_rate_23 : decode cX1_rate 23 = .ok (.iload_n 2, 1) := by decide +kernel
theorem dX1_rate_24 : decode cX1_rate 24 = .ok (.aload_n 0, 1) := by decide +kernel
theorem dX1_rate_25 : decode cX1_rate 25 = .ok (.getfield 36, 3) := by decide +kernel
theorem dX1_rate_28 : decode cX1_rate 28 = .ok (.if_icmp .lt 19, 3) := by decide +kernel
theorem dX1_rate_31 : decode cX1_rate 31 = .ok (.iload_n 2, 1) := by decide +kernel
theorem dX1_rate_32 : decode cX1_rate 32 = .ok (.aload_n 0, 1) := by decide +kernel
theorem dX1_rate_33 : decode cX1_rate 33 = .ok (.getfield 36, 3) := by decide +kernel
theorem dX1_rate_36 : decode cX1_rate 36 = .ok (.if_icmp .ne 26, 3) := by decide +kernel
theorem dX1_rate_39 : decode cX1_rate 39 = .ok (.iload_n 3, 1) := by decide +kernel
theorem dX1_rate_40 : decode cX1_rate 40 = .ok (.aload_n 0, 1) := by decide +kernel
theorem dX1_rate_41 : decode cX1_rate 41 = .ok (.getfield 39, 3) := by decide +kernel
theorem dX1_rate_44 : decode cX1_rate 44 = .ok (.if_icmp .ge 18, 3) := by decide +kernel
theorem dX1_rate_47 : decode cX1_rate 47 = .ok (.aload_n 0, 1) := by decide +kernel
theorem dX1_rate_48 : decode cX1_rate 48 = .ok (.iload_n 1, 1) := by decide +kernel
theorem dX1_rate_49 : decode cX1_rate 49 = .ok (.putfield 32, 3) := by decide +kernel
theorem dX1_rate_52 : decode cX1_rate 52 = .ok (.aload_n 0, 1) := by decide +kernel
theorem dX1_rate_53 : decode cX1_rate 53 = .ok (.iload_n 2, 1) := by decide +kernel
theorem dX1_rate_54 : decode cX1_rate 54 = .ok (.putfield 36, 3) := by decide +kernel
theorem dX1_rate_57 : decode cX1_rate 57 = .ok (.aload_n 0, 1) := by decide +kernel
theorem dX1_rate_58 : decode cX1_rate 58 = .ok (.iload_n 3, 1) := by decide +kernel
theorem dX1_rate_59 : decode cX1_rate 59 = .ok (.putfield 39, 3) := by decide +kernel
theorem dX1_rate_62 : decode cX1_rate 62 = .ok (.return_, 1) := by decide +kernel
set_option maxRecDepth 20000 in
theorem ggX1_leastInRow_X1_stretch : GoodIn wsX1_leastInRow wsX1_stretch := goodIn_r _ [19, 8, 9, 3, 20, 21, 22, 23, 24, 25, 26, 27, 28, 34, 35, 36, 37, 38, 39, 40, 41] (by decide +kernel) (by decide +kernel)
set_option maxRecDepth 20000 in
theorem gX1_leastInRow_X1_stretch : GoodIn wsX1_leastInRow (wsV RX1 161 RX1 yX1_stretch wsX1_stretch) := goodIn_app (goodIn_of _ (by decide +kernel)) ggX1_leastInRow_X1_stretch
theorem dX1_leastInRow_0 : decode cX1_leastInRow 0 = .ok (.aload_n 0, 1) := by decide +kernel
theorem dX1_leastInRow_1 : decode cX1_leastInRow 1 = .ok (.getfield 12, 3) := by decide +kernel
theorem dX1_leastInRow_4 : decode cX1_leastInRow 4 = .ok (.getfield 155, 3) := by decide +kernel
theorem dX1_leastInRow_7 : decode cX1_leastInRow 7 = .ok (.bipush 10, 2) := by decide +kernel
theorem dX1_leastInRow_9 : decode cX1_leastInRow 9 = .ok (.iload_n 1, 1) := by decide +kernel
theorem dX1_leastInRow_10 : decode cX1_leastInRow 10 = .ok (.imul, 1) := by decide +kernel
theorem dX1_leastInRow_11 : decode cX1_leastInRow 11 = .ok (.aload_n 0, 1) := by decide +kernel
theorem dX1_leastInRow_12 : decode cX1_leastInRow 12 = .ok (.getfield 50, 3) := by decide +kernel
theorem dX1_leastInRow_15 : decode cX1_leastInRow 15 = .ok (.iconst 0, 1) := by decide +kernel
theorem dX1_leastInRow_16 : decode cX1_leastInRow 16 = .ok (.bipush 10, 2) := by decide +kernel
theorem dX1_leastInRow_18 : decode cX1_leastInRow 18 = .ok (.invokestatic 144, 3) := by decide +kernel
theorem dX1_leastInRow_21 : decode cX1_leastInRow 21 = .ok (.iconst 0, 1) := by decide +kernel
theorem dX1_leastInRow_22 : decode cX1_leastInRow 22 = .ok (.istore_n 3, 1) := by decide +kernel
theorem dX1_leastInRow_23 : decode cX1_leastInRow 23 = .ok (.aload_n 0, 1) := by decide +kernel
theorem dX1_leastInRow_24 : decode cX1_leastInRow 24 = .ok (.getfield 21, 3) := by decide +kernel
theorem dX1_leastInRow_27 : decode cX1_leastInRow 27 = .ok (.getfield 158, 3) := by decide +kernel
theorem dX1_leastInRow_30 : decode cX1_leastInRow 30 = .ok (.iconst 1, 1) := by decide +kernel
theorem dX1_leastInRow_31 : decode cX1_leastInRow 31 = .ok (.isub, 1) := by decide +kernel
theorem dX1_leastInRow_32 : decode cX1_leastInRow 32 = .ok (.istore 4, 2) := by decide +kernel
theorem dX1_leastInRow_34 : decode cX1_leastInRow 34 = .ok (.iload 4, 2) := by decide +kernel
theorem dX1_leastInRow_36 : decode cX1_leastInRow 36 = .ok (.bipush 10, 2) := by decide +kernel
theorem dX1_leastInRow_38 : decode cX1_leastInRow 38 = .ok (.if_icmp .ge 123, 3) := by decide +kernel
theorem dX1_leastInRow_41 : decode cX1_leastInRow 41 = .ok (.iload_n 2, 1) := by decide +kernel
theorem dX1_leastInRow_42 : decode cX1_leastInRow 42 = .ok (.aload_n 0, 1) := by decide +kernel
theorem dX1_leastInRow_43 : decode cX1_leastInRow 43 = .ok (.iload 4, 2) := by decide +kernel
theorem dX1_leastInRow_45 : decode cX1_leastInRow 45 = .ok (.invokevirtual 161, 3) := by decide +kernel
theorem dX1_leastInRow_48 : decode cX1_leastInRow 48 = .ok (.isub, 1) := by decide +kernel
theorem dX1_leastInRow_49 : decode cX1_leastInRow 49 = .ok (.istore 5, 2) := by decide +kernel
theorem dX1_leastInRow_51 : decode cX1_leastInRow 51 = .ok (.iload 4, 2) := by decide +kernel
theorem dX1_leastInRow_53 : decode cX1_leastInRow 53 = .ok (.istore 6, 2) := by decide +kernel
theorem dX1_leastInRow_55 : decode cX1_leastInRow 55 = .ok (.iload 6, 2) := by decide +kernel
theorem dX1_leastInRow_57 : decode cX1_leastInRow 57 = .ok (.iload 4, 2) := by decide +kernel
theorem dX1_leastInRow_59 : decode cX1_leastInRow 59 = .ok (.aload_n 0, 1) := by decide +kernel
theorem dX1_leastInRow_60 : decode cX1_leastInRow 60 = .ok (.getfield 21, 3) := by decide +kernel
theorem dX1_leastInRow_63 : decode cX1_leastInRow 63 = .ok (.getfield 158, 3) := by decide +kernel
theorem dX1_leastInRow_66 : decode cX1_leastInRow 66 = .ok (.isub, 1) := by decide +kernel
theorem dX1_leastInRow_67 : decode cX1_leastInRow 67 = .ok (.if_icmp .le 81, 3) := by decide +kernel
theorem dX1_leastInRow_70 : decode cX1_leastInRow 70 = .ok (.iload 5, 2) := by decide +kernel
theorem dX1_leastInRow_72 : decode cX1_leastInRow 72 = .ok (.ifCond .le 76, 3) := by decide +kernel
theorem dX1_leastInRow_75 : decode cX1_leastInRow 75 = .ok (.aload_n 0, 1) := by decide +kernel
theorem dX1_leastInRow_76 : decode cX1_leastInRow 76 = .ok (.getfield 12, 3) := by decide +kernel
theorem dX1_leastInRow_79 : decode cX1_leastInRow 79 = .ok (.getfield 164, 3) := by decide +kernel
theorem dX1_leastInRow_82 : decode cX1_leastInRow 82 = .ok (.bipush 10, 2) := by decide +kernel
theorem dX1_leastInRow_84 : decode cX1_leastInRow 84 = .ok (.iload_n 1, 1) := by decide +kernel
theorem dX1_leastInRow_85 : decode cX1_leastInRow 85 = .ok (.imul, 1) := by decide +kernel
theorem dX1_leastInRow_86 : decode cX1_leastInRow 86 = .ok (.iload 6, 2) := by decide +kernel
theorem dX1_leastInRow_88 : decode cX1_leastInRow 88 = .ok (.iadd, 1) := by decide +kernel
theorem dX1_leastInRow_89 : decode cX1_leastInRow 89 = .ok (.iaload, 1) := by decide +kernel
theorem dX1_leastInRow_90 : decode cX1_leastInRow 90 = .ok (.ifCond .eq 7, 3) := by decide +kernel
theorem dX1_leastInRow_93 : decode cX1_leastInRow 93 = .ok (.iconst 0, 1) := by decide +kernel
theorem dX1_leastInRow_94 : decode cX1_leastInRow 94 = .ok (.goto 13, 3) := by decide +kernel
theorem dX1_leastInRow_97 : decode cX1_leastInRow 97 = .ok (.bipush 9, 2) := by decide +kernel
theorem dX1_leastInRow_99 : decode cX1_leastInRow 99 = .ok (.aload_n 0, 1) := by decide +kernel
theorem dX1_leastInRow_100 : decode cX1_leastInRow 100 = .ok (.getfield 50, 3) := by decide +kernel
theorem dX1_leastInRow_103 : decode cX1_leastInRow 103 = .ok (.iload 6, 2) := by decide +kernel
theorem dX1_leastInRow_105 : decode cX1_leastInRow 105 = .ok (.iaload, 1) := by decide +kernel
theorem dX1_leastInRow_106 : decode cX1_leastInRow 106 = .ok (.isub, 1) := by decide +kernel
theorem dX1_leastInRow_107 : decode cX1_leastInRow 107 = .ok (.istore 7, 2) := by decide +kernel
theorem dX1_leastInRow_109 : decode cX1_leastInRow 109 = .ok (.iload 7, 2) := by decide +kernel
theorem dX1_leastInRow_111 : decode cX1_leastInRow 111 = .ok (.iload 5, 2) := by decide +kernel
theorem dX1_leastInRow_113 : decode cX1_leastInRow 113 = .ok (.invokestatic 139, 3) := by decide +kernel
theorem dX1_leastInRow_116 : decode cX1_leastInRow 116 = .ok (.istore 8, 2) := by decide +kernel
theorem dX1_leastInRow_118 : decode cX1_leastInRow 118 = .ok (.aload_n 0, 1) := by decide +kernel
theorem dX1_leastInRow_119 : decode cX1_leastInRow 119 = .ok (.getfield 50, 3) := by decide +kernel
theorem dX1_leastInRow_122 : decode cX1_leastInRow 122 = .ok (.iload 6, 2) := by decide +kernel
theorem dX1_leastInRow_124 : decode cX1_leastInRow 124 = .ok (.dup2, 1) := by decide +kernel
theorem dX1_leastInRow_125 : decode cX1_leastInRow 125 = .ok (.iaload, 1) := by decide +kernel
theorem dX1_leastInRow_126 : decode cX1_leastInRow 126 = .ok (.iload 8, 2) := by decide +kernel
theorem dX1_leastInRow_128 : decode cX1_leastInRow 128 = .ok (.iadd, 1) := by decide +kernel
theorem dX1_leastInRow_129 : decode cX1_leastInRow 129 = .ok (.iastore, 1) := by decide +kernel
theorem dX1_leastInRow_130 : decode cX1_leastInRow 130 = .ok (.iload 5, 2) := by decide +kernel
theorem dX1_leastInRow_132 : decode cX1_leastInRow 132 = .ok (.iload 8, 2) := by decide +kernel
theorem dX1_leastInRow_134 : decode cX1_leastInRow 134 = .ok (.isub, 1) := by decide +kernel
theorem dX1_leastInRow_135 : decode cX1_leastInRow 135 = .ok (.istore 5, 2) := by decide +kernel
theorem dX1_leastInRow_137 : decode cX1_leastInRow 137 = .ok (.iload_n 3, 1) := by decide +kernel
theorem dX1_leastInRow_138 : decode cX1_leastInRow 138 = .ok (.iload 8, 2) := by decide +kernel
theorem dX1_leastInRow_140 : decode cX1_leastInRow 140 = .ok (.iadd, 1) := by decide +kernel
theorem dX1_leastInRow_141 : decode cX1_leastInRow 141 = .ok (.istore_n 3, 1) := by decide +kernel
theorem dX1_leastInRow_142 : decode cX1_leastInRow 142 = .ok (.iinc 6 (-1), 3) := by decide +kernel
theorem dX1_leastInRow_145 : decode cX1_leastInRow 145 = .ok (.goto (-90), 3) := by decide +kernel
theorem dX1_leastInRow_148 : decode cX1_leastInRow 148 = .ok (.iload 5, 2) := by decide +kernel
theorem dX1_leastInRow_150 : decode cX1_leastInRow 150 = .ok (.ifCond .le 5, 3) := by decide +kernel
theorem dX1_leastInRow_153 : decode cX1_leastInRow 153 = .ok (.iconst (-1), 1) := by decide +kernel
theorem dX1_leastInRow_154 : decode cX1_leastInRow 154 = .ok (.ireturn, 1) := by decide +kernel
theorem dX1_leastInRow_155 : decode cX1_leastInRow 155 = .ok (.iinc 4 1, 3) := by decide +kernel
theorem dX1_leastInRow_158 : decode cX1_leastInRow 158 = .ok (.goto (-124), 3) := by decide +kernel
theorem dX1_leastInRow_161 : decode cX1_leastInRow 161 = .ok (.iload_n 3, 1) := by decide +kernel
theorem dX1_leastInRow_162 : decode cX1_leastInRow 162 = .ok (.ireturn, 1) := by decide +kernel
theorem dX1_stretch_0 : decode cX1_stretch 0 = .ok (.iconst 0, 1) := by decide +kernel
theorem dX1_stretch_1 : decode cX1_stretch 1 = .ok (.istore_n 2, 1) := by decide +kernel
theorem dX1_stretch_2 : decode cX1_stretch 2 = .ok (.iload_n 1, 1) := by decide +kernel
theorem dX1_stretch_3 : decode cX1_stretch 3 = .ok (.istore_n 3, 1) := by decide +kernel
theorem dX1_stretch_4 : decode cX1_stretch 4 = .ok (.iload_n 3, 1) := by decide +kernel
theorem dX1_stretch_5 : decode cX1_stretch 5 = .ok (.iload_n 1, 1) := by decide +kernel
theorem dX1_stretch_6 : decode cX1_stretch 6 = .ok (.aload_n 0, 1) := by decide +kernel
theorem dX1_stretch_7 : decode cX1_stretch 7 = .ok (.getfield 21, 3) := by decide +kernel
theorem dX1_stretch_10 : decode cX1_stretch 10 = .ok (.getfield 158, 3) := by decide +kernel
theorem dX1_stretch_13 : decode cX1_stretch 13 = .ok (.isub, 1) := by decide +kernel
theorem dX1_stretch_14 : decode cX1_stretch 14 = .ok (.if_icmp .le 18, 3) := by decide +kernel
theorem dX1_stretch_17 : decode cX1_stretch 17 = .ok (.iload_n 2, 1) := by decide +kernel
theorem dX1_stretch_18 : decode cX1_stretch 18 = .ok (.aload_n 0, 1) := by decide +kernel
theorem dX1_stretch_19 : decode cX1_stretch 19 = .ok (.getfield 50, 3) := by decide +kernel
theorem dX1_stretch_22 : decode cX1_stretch 22 = .ok (.iload_n 3, 1) := by decide +kernel
theorem dX1_stretch_23 : decode cX1_stretch 23 = .ok (.iaload, 1) := by decide +kernel
theorem dX1_stretch_24 : decode cX1_stretch 24 = .ok (.iadd, 1) := by decide +kernel
theorem dX1_stretch_25 : decode cX1_stretch 25 = .ok (.istore_n 2, 1) := by decide +kernel
theorem dX1_stretch_26 : decode cX1_stretch 26 = .ok (.iinc 3 (-1), 3) := by decide +kernel
theorem dX1_stretch_29 : decode cX1_stretch 29 = .ok (.goto (-25), 3) := by decide +kernel
theorem dX1_stretch_32 : decode cX1_stretch 32 = .ok (.iload_n 2, 1) := by decide +kernel
theorem dX1_stretch_33 : decode cX1_stretch 33 = .ok (.ireturn, 1) := by decide +kernel
set_option maxRecDepth 20000 in
theorem ggX6_init_X1_init : GoodIn wsX6_init wsX1_init := goodIn_r _ [23, 24, 2, 3, 25, 26, 27, 28, 29, 30, 31, 32, 33, 34, 35, 36, 37, 38, 39, 40, 41, 16, 42, 43, 44, 45, 46, 47, 48, 49, 50, 51, 52, 53, 54, 55, 56, 57, 58, 59, 60, 61, 62, 63, 64, 65, 66, 67, 68, 69, 166, 167, 168, 169, 170, 145, 146, 147, 148, 149, 150, 151, 152, 153, 171, 172, 173, 174, 175, 176, 177, 178, 179, 180, 181, 182] (by decide +kernel) (by decide +kernel)
set_option maxRecDepth 20000 in
theorem gX6_init_X1_init_n9 : GoodIn wsX6_init (wsX1_init) := ggX6_init_X1_init
set_option maxRecDepth 20000 in
theorem ggX6_init_X2_init : GoodIn wsX6_init wsX2_init := goodIn_r _ [71, 72, 2, 3, 73, 74, 16, 75, 161, 162, 163] (by decide +kernel) (by decide +kernel)
set_option maxRecDepth 20000 in
theorem gX6_init_X2_init_n18 : GoodIn wsX6_init (wsX2_init) := ggX6_init_X2_init
set_option maxRecDepth 20000 in
theorem ggX6_init_X4_init : GoodIn wsX6_init wsX4_init := goodIn_r _ [77, 78, 2, 3, 79, 16, 80, 164, 165] (by decide +kernel) (by decide +kernel)
set_option maxRecDepth 20000 in
theorem gX6_init_X4_init_n25 : GoodIn wsX6_init (wsX4_init) := ggX6_init_X4_init
set_option maxRecDepth 20000 in
theorem ggX6_init_X6_useSettings : GoodIn wsX6_init wsX6_useSettings := goodIn_r _ [85, 7, 86, 17, 87, 88, 89, 90, 91, 92, 93, 94, 95, 6, 96, 32, 28, 36, 97, 98, 99, 31, 100, 60, 61, 62, 59, 101, 102, 103, 104, 105, 106, 107, 108, 55, 56, 109, 110, 111, 112, 113, 114, 115, 116, 27, 117, 47, 51, 118, 119, 120, 121, 57, 122, 123, 124, 125, 126, 127, 128, 129, 58, 130, 131, 132, 35, 133, 67, 69, 134, 68, 135, 136, 137, 138, 139, 140, 141, 142, 143, 144, 154, 155, 156, 157, 158, 159, 160, 145, 146, 147, 148, 149, 150, 151, 152, 153, 171, 172, 173, 174, 175, 176, 177, 178, 179, 180, 181, 182, 166, 167, 168, 169, 170] (by decide +kernel) (by decide +kernel)
set_option maxRecDepth 20000 in
theorem gX6_init_X6_useSettings : GoodIn wsX6_init (wsV RX6 47 RX6 yX6_useSettings wsX6_useSettings) := goodIn_app (goodIn_of _ (by decide +kernel)) ggX6_init_X6_useSettings
theorem dX6_init_0 : decode cX6_init 0 = .ok (.aload_n 0, 1) := by decide +kernel
theorem dX6_init_1 : decode cX6_init 1 = .ok (.invokespecial 1, 3) := by decide +kernel
theorem dX6_init_4 : decode cX6_init 4 = .ok (.aload_n 0, 1) := by decide +kernel
theorem dX6_init_5 : decode cX6_init 5 = .ok (.new 7, 3) := by decide +kernel
theorem dX6_init_8 : decode cX6_init 8 = .ok (.dup, 1) := by decide +kernel
theorem dX6_init_9 : decode cX6_init 9 = .ok (.invokespecial 9, 3) := by decide +kernel
theorem dX6_init_12 : decode cX6_init 12 = .ok (.putfield 10, 3) := by decide +kernel
theorem dX6_init_15 : decode cX6_init 15 = .ok (.aload_n 0, 1) := by decide +kernel
theorem dX6_init_16 : decode cX6_init 16 = .ok (.new 16, 3) := by decide +kernel
theorem dX6_init_19 : decode cX6_init 19 = .ok (.dup, 1) := by decide +kernel
theorem dX6_init_20 : decode cX6_init 20 = .ok (.invokespecial 18, 3) := by decide +kernel
theorem dX6_init_23 : decode cX6_init 23 = .ok (.putfield 19, 3) := by decide +kernel
theorem dX6_init_26 : decode cX6_init 26 = .ok (.aload_n 0, 1) := by decide +kernel
theorem dX6_init_27 : decode cX6_init 27 = .ok (.new 23, 3) := by decide +kernel
theorem dX6_init_30 : decode cX6_init 30 = .ok (.dup, 1) := by decide +kernel
theorem dX6_init_31 : decode cX6_init 31 = .ok (.invokespecial 25, 3) := by decide +kernel
theorem dX6_init_34 : decode cX6_init 34 = .ok (.putfield 26, 3) := by decide +kernel
theorem dX6_init_37 : decode cX6_init 37 = .ok (.aload_n 0, 1) := by decide +kernel
theorem dX6_init_38 : decode cX6_init 38 = .ok (.bipush 8, 2) := by decide +kernel
theorem dX6_init_40 : decode cX6_init 40 = .ok (.newarray .int, 2) := by decide +kernel
theorem dX6_init_42 : decode cX6_init 42 = .ok (.putfield 30, 3) := by decide +kernel
theorem dX6_init_45 : decode cX6_init 45 = .ok (.aload_n 0, 1) := by decide +kernel
theorem dX6_init_46 : decode cX6_init 46 = .ok (.iconst 0, 1) := by decide +kernel
theorem dX6_init_47 : decode cX6_init 47 = .ok (.putfield 34, 3) := by decide +kernel
theorem dX6_init_50 : decode cX6_init 50 = .ok (.aload_n 0, 1) := by decide +kernel
theorem dX6_init_51 : decode cX6_init 51 = .ok (.iconst 0, 1) := by decide +kernel
theorem dX6_init_52 : decode cX6_init 52 = .ok (.putfield 38, 3) := by decide +kernel
theorem dX6_init_55 : decode cX6_init 55 = .ok (.aload_n 0, 1) := by decide +kernel
theorem dX6_init_56 : decode cX6_init 56 = .ok (.iconst 0, 1) := by decide +kernel
theorem dX6_init_57 : decode cX6_init 57 = .ok (.putfield 41, 3) := by decide +kernel
theorem dX6_init_60 : decode cX6_init 60 = .ok (.iconst 0, 1) := by decide +kernel
theorem dX6_init_61 : decode cX6_init 61 = .ok (.istore_n 1, 1) := by decide +kernel
theorem dX6_init_62 : decode cX6_init 62 = .ok (.iload_n 1, 1) := by decide +kernel
theorem dX6_init_63 : decode cX6_init 63 = .ok (.bipush 8, 2) := by decide +kernel
theorem dX6_init_65 : decode cX6_init 65 = .ok (.if_icmp .ge 20, 3) := by decide +kernel
theorem dX6_init_68 : decode cX6_init 68 = .ok (.aload_n 0, 1) := by decide +kernel
theorem dX6_init_69 : decode cX6_init 69 = .ok (.getfield 30, 3) := by decide +kernel
theorem dX6_init_72 : decode cX6_init 72 = .ok (.iload_n 1, 1) := by decide +kernel
theorem dX6_init_73 : decode cX6_init 73 = .ok (.getstatic 44, 3) := by decide +kernel
theorem dX6_init_76 : decode cX6_init 76 = .ok (.iload_n 1, 1) := by decide +kernel
theorem dX6_init_77 : decode cX6_init 77 = .ok (.iaload, 1) := by decide +kernel
theorem dX6_init_78 : decode cX6_init 78 = .ok (.iastore, 1) := by decide +kernel
theorem dX6_init_79 : decode cX6_init 79 = .ok (.iinc 1 1, 3) := by decide +kernel
theorem dX6_init_82 : decode cX6_init 82 = .ok (.goto (-20), 3) := by decide +kernel
theorem dX6_init_85 : decode cX6_init 85 = .ok (.aload_n 0, 1) := by decide +kernel
theorem dX6_init_86 : decode cX6_init 86 = .ok (.invokevirtual 47, 3) := by decide +kernel
theorem dX6_init_89 : decode cX6_init 89 = .ok (.return_, 1) := by decide +kernel
set_option maxRecDepth 20000 in
theorem ggX6_sets_X6_isCell : GoodIn wsX6_sets wsX6_isCell := goodIn_r _ [8, 9, 10, 7, 11] (by decide +kernel) (by decide +kernel)
set_option maxRecDepth 20000 in
theorem gX6_sets_X6_isCell : GoodIn wsX6_sets (va_wsS RX6 50 yX6_isCell wsX6_isCell) := goodIn_app (goodIn_of _ (by decide +kernel)) ggX6_sets_X6_isCell
set_option maxRecDepth 20000 in
theorem ggX6_sets_X6_isIn : GoodIn wsX6_sets wsX6_isIn := goodIn_r _ [11] (by decide +kernel) (by decide +kernel)
set_option maxRecDepth 20000 in
theorem gX6_sets_X6_isIn : GoodIn wsX6_sets (va_wsS RX6 54 yX6_isIn wsX6_isIn) := goodIn_app (goodIn_of _ (by decide +kernel)) ggX6_sets_X6_isIn
set_option maxRecDepth 20000 in
theorem ggX6_sets_X6_refuse : GoodIn wsX6_sets wsX6_refuse := goodIn_r _ [15, 16, 17, 18, 134, 135, 136, 137, 138, 139, 140] (by decide +kernel) (by decide +kernel)
set_option maxRecDepth 20000 in
theorem gX6_sets_X6_refuse : GoodIn wsX6_sets (wsV RX6 61 RX6 yX6_refuse wsX6_refuse) := goodIn_app (goodIn_of _ (by decide +kernel)) ggX6_sets_X6_refuse
set_option maxRecDepth 20000 in
theorem ggX6_sets_X2_note : GoodIn wsX6_sets wsX2_note := goodIn_r _ [23, 24, 25, 26, 27, 28, 22, 29, 30, 31, 32, 33, 34, 35, 36, 37, 38, 39, 40, 150, 151, 152, 153, 154, 155, 156, 157] (by decide +kernel) (by decide +kernel)
set_option maxRecDepth 20000 in
theorem gX6_sets_X2_note : GoodIn wsX6_sets (wsV RX6 69 RX2 yX2_note wsX2_note) := goodIn_app (goodIn_of _ (by decide +kernel)) ggX6_sets_X2_note
set_option maxRecDepth 20000 in
theorem ggX6_sets_X0_part : GoodIn wsX6_sets wsX0_part := goodIn_r _ [44, 36, 38, 39, 40, 37, 153, 154, 155, 156, 157] (by decide +kernel) (by decide +kernel)
set_option maxRecDepth 20000 in
theorem gX6_sets_X0_part : GoodIn wsX6_sets (wsV RX6 73 RX0 yX0_part wsX0_part) := goodIn_app (goodIn_of _ (by decide +kernel)) ggX6_sets_X0_part
set_option maxRecDepth 20000 in
theorem ggX6_sets_X0_settle : GoodIn wsX6_sets wsX0_settle := goodIn_r _ [48, 37, 49, 50, 51, 52, 53, 54, 55, 34, 56, 38, 36, 57, 58, 59, 60, 40, 153, 154, 155, 156, 157] (by decide +kernel) (by decide +kernel)
set_option maxRecDepth 20000 in
theorem gX6_sets_X0_settle : GoodIn wsX6_sets (wsV RX6 79 RX0 yX0_settle wsX0_settle) := goodIn_app (goodIn_of _ (by decide +kernel)) ggX6_sets_X0_settle
set_option maxRecDepth 20000 in
theorem ggX6_sets_X1_measure : GoodIn wsX6_sets wsX1_measure := goodIn_r _ [65, 66, 67, 68, 69, 70, 71, 72, 73, 74, 75, 76, 77, 78, 79, 80, 81, 82, 83, 84, 85, 86, 87, 88, 89, 90, 91, 92, 93, 94, 95, 34, 96, 36, 37, 97, 98, 99, 100, 101, 102, 103, 104, 105, 106, 107, 108, 109, 110, 111, 112, 113, 114, 115, 116, 117, 118, 119, 120, 121, 122, 123, 124, 125, 126, 127, 128, 129, 141, 142, 143, 144, 145, 146, 147, 148, 149, 158, 159, 160, 161, 162, 163, 164, 165, 153, 154, 155, 156, 157, 166, 167, 168, 169] (by decide +kernel) (by decide +kernel)
set_option maxRecDepth 20000 in
theorem gX6_sets_X1_measure : GoodIn wsX6_sets (wsV RX6 82 RX1 yX1_measure wsX1_measure) := goodIn_app (goodIn_of _ (by decide +kernel)) ggX6_sets_X1_measure
set_option maxRecDepth 20000 in
theorem ggX6_sets_X2_keep : GoodIn wsX6_sets wsX2_keep := goodIn_r _ [133, 24, 30, 150, 151, 152] (by decide +kernel) (by decide +kernel)
set_option maxRecDepth 20000 in
theorem gX6_sets_X2_keep : GoodIn wsX6_sets (wsV RX6 85 RX2 yX2_keep wsX2_keep) := goodIn_app (goodIn_of _ (by decide +kernel)) ggX6_sets_X2_keep
theorem dX6_sets_0 : decode cX6_sets 0 = .ok (.iload_n 1, 1) := by decide +kernel
theorem dX6_sets_1 : decode cX6_sets 1 = .ok (.invokestatic 50, 3) := by decide +kernel
theorem dX6_sets_4 : decode cX6_sets 4 = .ok (.ifCond .eq 25, 3) := by decide +kernel
theorem dX6_sets_7 : decode cX6_sets 7 = .ok (.iload_n 2, 1) := by decide +kernel
theorem dX6_sets_8 : decode cX6_sets 8 = .ok (.iconst 0, 1) := by decide +kernel
theorem dX6_sets_9 : decode cX6_sets 9 = .ok (.iconst 3, 1) := by decide +kernel
theorem dX6_sets_10 : decode cX6_sets 10 = .ok (.invokestatic 54, 3) := by decide +kernel
theorem dX6_sets_13 : decode cX6_sets 13 = .ok (.ifCond .eq 16, 3) := by decide +kernel
theorem dX6_sets_16 : decode cX6_sets 16 = .ok (.iload_n 3, 1) := by decide +kernel
theorem dX6_sets_17 : decode cX6_sets 17 = .ok (.iconst 0, 1) := by decide +kernel
theorem dX6_sets_18 : decode cX6_sets 18 = .ok (.getstatic 58, 3) := by decide +kernel
theorem dX6_sets_21 : decode cX6_sets 21 = .ok (.iload_n 2, 1) := by decide +kernel
theorem dX6_sets_22 : decode cX6_sets 22 = .ok (.iaload, 1) := by decide +kernel
theorem dX6_sets_23 : decode cX6_sets 23 = .ok (.invokestatic 54, 3) := by decide +kernel
theorem dX6_sets_26 : decode cX6_sets 26 = .ok (.ifCond .ne 10, 3) := by decide +kernel
theorem dX6_sets_29 : decode cX6_sets 29 = .ok (.aload_n 0, 1) := by decide +kernel
theorem dX6_sets_30 : decode cX6_sets 30 = .ok (.bipush (-2), 2) := by decide +kernel
theorem dX6_sets_32 : decode cX6_sets 32 = .ok (.invokevirtual 61, 3) := by decide +kernel
theorem dX6_sets_35 : decode cX6_sets 35 = .ok (.ireturn, 1) := by decide +kernel
theorem dX6_sets_36 : decode cX6_sets 36 = .ok (.aload_n 0, 1) := by decide +kernel
theorem dX6_sets_37 : decode cX6_sets 37 = .ok (.getfield 19, 3) := by decide +kernel
theorem dX6_sets_40 : decode cX6_sets 40 = .ok (.aload_n 0, 1) := by decide +kernel
theorem dX6_sets_41 : decode cX6_sets 41 = .ok (.getfield 10, 3) := by decide +kernel
theorem dX6_sets_44 : decode cX6_sets 44 = .ok (.getfield 65, 3) := by decide +kernel
theorem dX6_sets_47 : decode cX6_sets 47 = .ok (.invokevirtual 69, 3) := by decide +kernel
theorem dX6_sets_50 : decode cX6_sets 50 = .ok (.aload_n 0, 1) := by decide +kernel
theorem dX6_sets_51 : decode cX6_sets 51 = .ok (.getfield 10, 3) := by decide +kernel
theorem dX6_sets_54 : decode cX6_sets 54 = .ok (.getfield 65, 3) := by decide +kernel
theorem dX6_sets_57 : decode cX6_sets 57 = .ok (.iload_n 2, 1) := by decide +kernel
theorem dX6_sets_58 : decode cX6_sets 58 = .ok (.invokevirtual 73, 3) := by decide +kernel
theorem dX6_sets_61 : decode cX6_sets 61 = .ok (.astore 4, 2) := by decide +kernel
theorem dX6_sets_63 : decode cX6_sets 63 = .ok (.aload 4, 2) := by decide +kernel
theorem dX6_sets_65 : decode cX6_sets 65 = .ok (.iload_n 1, 1) := by decide +kernel
theorem dX6_sets_66 : decode cX6_sets 66 = .ok (.iaload, 1) := by decide +kernel
theorem dX6_sets_67 : decode cX6_sets 67 = .ok (.istore 5, 2) := by decide +kernel
theorem dX6_sets_69 : decode cX6_sets 69 = .ok (.aload 4, 2) := by decide +kernel
theorem dX6_sets_71 : decode cX6_sets 71 = .ok (.iload_n 1, 1) := by decide +kernel
theorem dX6_sets_72 : decode cX6_sets 72 = .ok (.iload_n 3, 1) := by decide +kernel
theorem dX6_sets_73 : decode cX6_sets 73 = .ok (.iastore, 1) := by decide +kernel
theorem dX6_sets_74 : decode cX6_sets 74 = .ok (.aload_n 0, 1) := by decide +kernel
theorem dX6_sets_75 : decode cX6_sets 75 = .ok (.getfield 10, 3) := by decide +kernel
theorem dX6_sets_78 : decode cX6_sets 78 = .ok (.getfield 65, 3) := by decide +kernel
theorem dX6_sets_81 : decode cX6_sets 81 = .ok (.invokevirtual 79, 3) := by decide +kernel
theorem dX6_sets_84 : decode cX6_sets 84 = .ok (.aload_n 0, 1) := by decide +kernel
theorem dX6_sets_85 : decode cX6_sets 85 = .ok (.getfield 10, 3) := by decide +kernel
theorem dX6_sets_88 : decode cX6_sets 88 = .ok (.invokevirtual 82, 3) := by decide +kernel
theorem dX6_sets_91 : decode cX6_sets 91 = .ok (.aload_n 0, 1) := by decide +kernel
theorem dX6_sets_92 : decode cX6_sets 92 = .ok (.getfield 19, 3) := by decide +kernel
theorem dX6_sets_95 : decode cX6_sets 95 = .ok (.invokevirtual 85, 3) := by decide +kernel
theorem dX6_sets_98 : decode cX6_sets 98 = .ok (.iload 5, 2) := by decide +kernel
theorem dX6_sets_100 : decode cX6_sets 100 = .ok (.ireturn, 1) := by decide +kernel
set_option maxRecDepth 20000 in
theorem ggX6_draw_X6_isIn : GoodIn wsX6_draw wsX6_isIn := goodIn_r _ [10] (by decide +kernel) (by decide +kernel)
set_option maxRecDepth 20000 in
theorem gX6_draw_X6_isIn : GoodIn wsX6_draw (va_wsS RX6 54 yX6_isIn wsX6_isIn) := goodIn_app (goodIn_of _ (by decide +kernel)) ggX6_draw_X6_isIn
set_option maxRecDepth 20000 in
theorem ggX6_draw_X6_refuse : GoodIn wsX6_draw wsX6_refuse := goodIn_r _ [14, 15, 16, 17, 129, 130, 131, 132, 133, 134, 135] (by decide +kernel) (by decide +kernel)
set_option maxRecDepth 20000 in
theorem gX6_draw_X6_refuse : GoodIn wsX6_draw (wsV RX6 61 RX6 yX6_refuse wsX6_refuse) := goodIn_app (goodIn_of _ (by decide +kernel)) ggX6_draw_X6_refuse
set_option maxRecDepth 20000 in
theorem ggX6_draw_X2_note : GoodIn wsX6_draw wsX2_note := goodIn_r _ [22, 23, 24, 25, 26, 27, 21, 28, 29, 30, 31, 32, 33, 34, 35, 36, 37, 38, 39, 150, 151, 152, 145, 146, 147, 148, 149] (by decide +kernel) (by decide +kernel)
set_option maxRecDepth 20000 in
theorem gX6_draw_X2_note : GoodIn wsX6_draw (wsV RX6 69 RX2 yX2_note wsX2_note) := goodIn_app (goodIn_of _ (by decide +kernel)) ggX6_draw_X2_note
set_option maxRecDepth 20000 in
theorem ggX6_draw_X0_drawShapes : GoodIn wsX6_draw wsX0_drawShapes := goodIn_r _ [43, 44, 45, 46, 47, 48, 49, 50, 35, 51, 145, 146, 147, 148, 149] (by decide +kernel) (by decide +kernel)
set_option maxRecDepth 20000 in
theorem gX6_draw_X0_drawShapes : GoodIn wsX6_draw (wsV RX6 89 RX0 yX0_drawShapes wsX0_drawShapes) := goodIn_app (goodIn_of _ (by decide +kernel)) ggX6_draw_X0_drawShapes
set_option maxRecDepth 20000 in
theorem ggX6_draw_J7_fill_53178 : GoodIn wsX6_draw wsJ7_fill_53178 := goodIn_r _ [55] (by decide +kernel) (by decide +kernel)
set_option maxRecDepth 20000 in
theorem gX6_draw_J7_fill_53178 : GoodIn wsX6_draw (va_wsS RX6 96 yJ7_fill_53178 wsJ7_fill_53178) := goodIn_app (goodIn_of _ (by decide +kernel)) ggX6_draw_J7_fill_53178
set_option maxRecDepth 20000 in
theorem ggX6_draw_X1_measure : GoodIn wsX6_draw wsX1_measure := goodIn_r _ [60, 61, 62, 63, 64, 65, 66, 67, 68, 69, 70, 71, 72, 73, 53, 54, 55, 74, 75, 76, 77, 78, 79, 80, 81, 82, 83, 84, 85, 86, 87, 33, 88, 35, 36, 89, 90, 91, 92, 93, 94, 95, 96, 97, 98, 99, 100, 101, 102, 103, 104, 105, 106, 107, 108, 109, 110, 111, 112, 113, 114, 115, 116, 117, 118, 119, 120, 121, 136, 137, 138, 139, 140, 141, 142, 143, 144, 153, 154, 155, 156, 157, 158, 159, 160, 145, 146, 147, 148, 149, 161, 162, 163, 164] (by decide +kernel) (by decide +kernel)
set_option maxRecDepth 20000 in
theorem gX6_draw_X1_measure : GoodIn wsX6_draw (wsV RX6 82 RX1 yX1_measure wsX1_measure) := goodIn_app (goodIn_of _ (by decide +kernel)) ggX6_draw_X1_measure
set_option maxRecDepth 20000 in
theorem ggX6_draw_X2_keep : GoodIn wsX6_draw wsX2_keep := goodIn_r _ [125, 23, 29, 150, 151, 152] (by decide +kernel) (by decide +kernel)
set_option maxRecDepth 20000 in
theorem gX6_draw_X2_keep : GoodIn wsX6_draw (wsV RX6 85 RX2 yX2_keep wsX2_keep) := goodIn_app (goodIn_of _ (by decide +kernel)) ggX6_draw_X2_keep
set_option maxRecDepth 20000 in
theorem ggX6_draw_X6_total : GoodIn wsX6_draw wsX6_total := goodIn_r _ [128] (by decide +kernel) (by decide +kernel)
set_option maxRecDepth 20000 in
theorem gX6_draw_X6_total : GoodIn wsX6_draw (va_wsS RX6 104 yX6_total wsX6_total) := goodIn_app (goodIn_of _ (by decide +kernel)) ggX6_draw_X6_total
theorem dX6_draw_0 : decode cX6_draw 0 = .ok (.iload_n 1, 1) := by decide +kernel
theorem dX6_draw_1 : decode cX6_draw 1 = .ok (.iconst 0, 1) := by decide +kernel
theorem dX6_draw_2 : decode cX6_draw 2 = .ok (.ldc 88, 2) := by decide +kernel
theorem dX6_draw_4 : decode cX6_draw 4 = .ok (.invokestatic 54, 3) := by decide +kernel
theorem dX6_draw_7 : decode cX6_draw 7 = .ok (.ifCond .eq 13, 3) := by decide +kernel
theorem dX6_draw_10 : decode cX6_draw 10 = .ok (.iload_n 2, 1) := by decide +kernel
theorem dX6_draw_11 : decode cX6_draw 11 = .ok (.iconst 0, 1) := by decide +kernel
theorem dX6_draw_12 : decode cX6_draw 12 = .ok (.bipush 9, 2) := by decide +kernel
theorem dX6_draw_14 : decode cX6_draw 14 = .ok (.invokestatic 54, 3) := by decide +kernel
theorem dX6_draw_17 : decode cX6_draw 17 = .ok (.ifCond .ne 10, 3) := by decide +kernel
theorem dX6_draw_20 : decode cX6_draw 20 = .ok (.aload_n 0, 1) := by decide +kernel
theorem dX6_draw_21 : decode cX6_draw 21 = .ok (.bipush (-2), 2) := by decide +kernel
theorem dX6_draw_23 : decode cX6_draw 23 = .ok (.invokevirtual 61, 3) := by decide +kernel
theorem dX6_draw_26 : decode cX6_draw 26 = .ok (.ireturn, 1) := by decide +kernel
theorem dX6_draw_27 : decode cX6_draw 27 = .ok (.aload_n 0, 1) := by decide +kernel
theorem dX6_draw_28 : decode cX6_draw 28 = .ok (.getfield 19, 3) := by decide +kernel
theorem dX6_draw_31 : decode cX6_draw 31 = .ok (.aload_n 0, 1) := by decide +kernel
theorem dX6_draw_32 : decode cX6_draw 32 = .ok (.getfield 10, 3) := by decide +kernel
theorem dX6_draw_35 : decode cX6_draw 35 = .ok (.getfield 65, 3) := by decide +kernel
theorem dX6_draw_38 : decode cX6_draw 38 = .ok (.invokevirtual 69, 3) := by decide +kernel
theorem dX6_draw_41 : decode cX6_draw 41 = .ok (.aload_n 0, 1) := by decide +kernel
theorem dX6_draw_42 : decode cX6_draw 42 = .ok (.getfield 10, 3) := by decide +kernel
theorem dX6_draw_45 : decode cX6_draw 45 = .ok (.getfield 65, 3) := by decide +kernel
theorem dX6_draw_48 : decode cX6_draw 48 = .ok (.iload_n 1, 1) := by decide +kernel
theorem dX6_draw_49 : decode cX6_draw 49 = .ok (.iload_n 2, 1) := by decide +kernel
theorem dX6_draw_50 : decode cX6_draw 50 = .ok (.invokevirtual 89, 3) := by decide +kernel
theorem dX6_draw_53 : decode cX6_draw 53 = .ok (.aload_n 0, 1) := by decide +kernel
theorem dX6_draw_54 : decode cX6_draw 54 = .ok (.getfield 10, 3) := by decide +kernel
theorem dX6_draw_57 : decode cX6_draw 57 = .ok (.getfield 65, 3) := by decide +kernel
theorem dX6_draw_60 : decode cX6_draw 60 = .ok (.getfield 93, 3) := by decide +kernel
theorem dX6_draw_63 : decode cX6_draw 63 = .ok (.iconst 0, 1) := by decide +kernel
theorem dX6_draw_64 : decode cX6_draw 64 = .ok (.invokestatic 96, 3) := by decide +kernel
theorem dX6_draw_67 : decode cX6_draw 67 = .ok (.aload_n 0, 1) := by decide +kernel
theorem dX6_draw_68 : decode cX6_draw 68 = .ok (.getfield 10, 3) := by decide +kernel
theorem dX6_draw_71 : decode cX6_draw 71 = .ok (.invokevirtual 82, 3) := by decide +kernel
theorem dX6_draw_74 : decode cX6_draw 74 = .ok (.aload_n 0, 1) := by decide +kernel
theorem dX6_draw_75 : decode cX6_draw 75 = .ok (.getfield 19, 3) := by decide +kernel
theorem dX6_draw_78 : decode cX6_draw 78 = .ok (.invokevirtual 85, 3) := by decide +kernel
theorem dX6_draw_81 : decode cX6_draw 81 = .ok (.aload_n 0, 1) := by decide +kernel
theorem dX6_draw_82 : decode cX6_draw 82 = .ok (.getfield 10, 3) := by decide +kernel
theorem dX6_draw_85 : decode cX6_draw 85 = .ok (.getfield 65, 3) := by decide +kernel
theorem dX6_draw_88 : decode cX6_draw 88 = .ok (.getfield 101, 3) := by decide +kernel
theorem dX6_draw_91 : decode cX6_draw 91 = .ok (.invokestatic 104, 3) := by decide +kernel
theorem dX6_draw_94 : decode cX6_draw 94 = .ok (.ireturn, 1) := by decide +kernel
set_option maxRecDepth 20000 in
theorem ggX6_empties_X2_note : GoodIn wsX6_empties wsX2_note := goodIn_r _ [9, 10, 11, 12, 13, 14, 8, 15, 16, 17, 18, 19, 20, 21, 22, 23, 24, 25, 26, 126, 127, 128, 121, 122, 123, 124, 125] (by decide +kernel) (by decide +kernel)
set_option maxRecDepth 20000 in
theorem gX6_empties_X2_note : GoodIn wsX6_empties (wsV RX6 69 RX2 yX2_note wsX2_note) := goodIn_app (goodIn_of _ (by decide +kernel)) ggX6_empties_X2_note
set_option maxRecDepth 20000 in
theorem ggX6_empties_X6_total : GoodIn wsX6_empties wsX6_total := goodIn_r _ [30] (by decide +kernel) (by decide +kernel)
set_option maxRecDepth 20000 in
theorem gX6_empties_X6_total : GoodIn wsX6_empties (va_wsS RX6 104 yX6_total wsX6_total) := goodIn_app (goodIn_of _ (by decide +kernel)) ggX6_empties_X6_total
set_option maxRecDepth 20000 in
theorem ggX6_empties_J7_fill_53178 : GoodIn wsX6_empties wsJ7_fill_53178 := goodIn_r _ [34] (by decide +kernel) (by decide +kernel)
set_option maxRecDepth 20000 in
theorem gX6_empties_J7_fill_53178 : GoodIn wsX6_empties (va_wsS RX6 96 yJ7_fill_53178 wsJ7_fill_53178) := goodIn_app (goodIn_of _ (by decide +kernel)) ggX6_empties_J7_fill_53178
set_option maxRecDepth 20000 in
theorem ggX6_empties_X1_measure : GoodIn wsX6_empties wsX1_measure := goodIn_r _ [39, 40, 41, 42, 43, 44, 45, 46, 47, 48, 49, 50, 51, 52, 32, 33, 34, 53, 54, 55, 56, 57, 58, 59, 60, 61, 62, 63, 64, 65, 66, 20, 67, 22, 23, 68, 69, 70, 71, 72, 73, 74, 75, 76, 77, 78, 79, 80, 81, 82, 83, 84, 85, 86, 87, 88, 89, 90, 91, 92, 93, 94, 95, 96, 97, 98, 99, 100, 112, 113, 114, 115, 116, 117, 118, 119, 120, 129, 130, 131, 132, 133, 134, 135, 136, 121, 122, 123, 124, 125, 137, 138, 139, 140] (by decide +kernel) (by decide +kernel)
set_option maxRecDepth 20000 in
theorem gX6_empties_X1_measure : GoodIn wsX6_empties (wsV RX6 82 RX1 yX1_measure wsX1_measure) := goodIn_app (goodIn_of _ (by decide +kernel)) ggX6_empties_X1_measure
set_option maxRecDepth 20000 in
theorem ggX6_empties_X2_keep : GoodIn wsX6_empties wsX2_keep := goodIn_r _ [104, 10, 16, 126, 127, 128] (by decide +kernel) (by decide +kernel)
set_option maxRecDepth 20000 in
theorem gX6_empties_X2_keep : GoodIn wsX6_empties (wsV RX6 85 RX2 yX2_keep wsX2_keep) := goodIn_app (goodIn_of _ (by decide +kernel)) ggX6_empties_X2_keep
theorem dX6_empties_0 : decode cX6_empties 0 = .ok (.aload_n 0, 1) := by decide +kernel
theorem dX6_empties_1 : decode cX6_empties 1 = .ok (.getfield 19, 3) := by decide +kernel
theorem dX6_empties_4 : decode cX6_empties 4 = .ok (.aload_n 0, 1) := by decide +kernel
theorem dX6_empties_5 : decode cX6_empties 5 = .ok (.getfield 10, 3) := by decide +kernel
theorem dX6_empties_8 : decode cX6_empties 8 = .ok (.getfield 65, 3) := by decide +kernel
theorem dX6_empties_11 : decode cX6_empties 11 = .ok (.invokevirtual 69, 3) := by decide +kernel
theorem dX6_empties_14 : decode cX6_empties 14 = .ok (.aload_n 0, 1) := by decide +kernel
theorem dX6_empties_15 : decode cX6_empties 15 = .ok (.getfield 10, 3) := by decide +kernel
theorem dX6_empties_18 : decode cX6_empties 18 = .ok (.getfield 65, 3) := by decide +kernel
theorem dX6_empties_21 : decode cX6_empties 21 = .ok (.getfield 93, 3) := by decide +kernel
theorem dX6_empties_24 : decode cX6_empties 24 = .ok (.invokestatic 104, 3) := by decide +kernel
theorem dX6_empties_27 : decode cX6_empties 27 = .ok (.istore_n 1, 1) := by decide +kernel
theorem dX6_empties_28 : decode cX6_empties 28 = .ok (.aload_n 0, 1) := by decide +kernel
theorem dX6_empties_29 : decode cX6_empties 29 = .ok (.getfield 10, 3) := by decide +kernel
theorem dX6_empties_32 : decode cX6_empties 32 = .ok (.getfield 65, 3) := by decide +kernel
theorem dX6_empties_35 : decode cX6_empties 35 = .ok (.getfield 93, 3) := by decide +kernel
theorem dX6_empties_38 : decode cX6_empties 38 = .ok (.iconst 0, 1) := by decide +kernel
theorem dX6_empties_39 : decode cX6_empties 39 = .ok (.invokestatic 96, 3) := by decide +kernel
theorem dX6_empties_42 : decode cX6_empties 42 = .ok (.aload_n 0, 1) := by decide +kernel
theorem dX6_empties_43 : decode cX6_empties 43 = .ok (.getfield 10, 3) := by decide +kernel
theorem dX6_empties_46 : decode cX6_empties 46 = .ok (.invokevirtual 82, 3) := by decide +kernel
theorem dX6_empties_49 : decode cX6_empties 49 = .ok (.aload_n 0, 1) := by decide +kernel
theorem dX6_empties_50 : decode cX6_empties 50 = .ok (.getfield 19, 3) := by decide +kernel
theorem dX6_empties_53 : decode cX6_empties 53 = .ok (.invokevirtual 85, 3) := by decide +kernel
theorem dX6_empties_56 : decode cX6_empties 56 = .ok (.iload_n 1, 1) := by decide +kernel
theorem dX6_empties_57 : decode cX6_empties 57 = .ok (.ireturn, 1) := by decide +kernel
set_option maxRecDepth 20000 in
theorem ggX6_rules_X6_isIn : GoodIn wsX6_rules wsX6_isIn := goodIn_r _ [7] (by decide +kernel) (by decide +kernel)
set_option maxRecDepth 20000 in
theorem gX6_rules_X6_isIn : GoodIn wsX6_rules (va_wsS RX6 54 yX6_isIn wsX6_isIn) := goodIn_app (goodIn_of _ (by decide +kernel)) ggX6_rules_X6_isIn
set_option maxRecDepth 20000 in
theorem ggX6_rules_X6_refuse : GoodIn wsX6_rules wsX6_refuse := goodIn_r _ [11, 12, 13, 14, 99, 100, 101, 102, 103, 104, 105] (by decide +kernel) (by decide +kernel)
set_option maxRecDepth 20000 in
theorem gX6_rules_X6_refuse : GoodIn wsX6_rules (wsV RX6 61 RX6 yX6_refuse wsX6_refuse) := goodIn_app (goodIn_of _ (by decide +kernel)) ggX6_rules_X6_refuse
set_option maxRecDepth 20000 in
theorem ggX6_rules_X6_useSettings : GoodIn wsX6_rules wsX6_useSettings := goodIn_r _ [18, 19, 20, 3, 21, 22, 23, 24, 25, 26, 27, 28, 29, 30, 31, 32, 33, 34, 35, 36, 37, 38, 39, 40, 41, 42, 43, 44, 45, 46, 47, 48, 49, 50, 51, 52, 53, 54, 55, 56, 57, 58, 59, 60, 61, 62, 63, 64, 65, 66, 67, 68, 69, 70, 71, 72, 73, 74, 75, 76, 77, 78, 79, 80, 81, 82, 83, 84, 85, 86, 87, 88, 89, 90, 91, 92, 93, 94, 95, 96, 97, 98, 99, 100, 101, 102, 103, 104, 105, 106, 107, 108, 109, 110, 111, 112, 113, 114, 115, 116, 117, 118, 119, 120, 121, 122, 123, 124, 125, 126, 127, 128, 129, 130, 131] (by decide +kernel) (by decide +kernel)
set_option maxRecDepth 20000 in
theorem gX6_rules_X6_useSettings : GoodIn wsX6_rules (wsV RX6 47 RX6 yX6_useSettings wsX6_useSettings) := goodIn_app (goodIn_of _ (by decide +kernel)) ggX6_rules_X6_useSettings
theorem dX6_rules_0 : decode cX6_rules 0 = .ok (.iload_n 1, 1) := by decide +kernel
theorem dX6_rules_1 : decode cX6_rules 1 = .ok (.iconst 0, 1) := by decide +kernel
theorem dX6_rules_2 : decode cX6_rules 2 = .ok (.bipush 7, 2) := by decide +kernel
theorem dX6_rules_4 : decode cX6_rules 4 = .ok (.invokestatic 54, 3) := by decide +kernel
theorem dX6_rules_7 : decode cX6_rules 7 = .ok (.ifCond .eq 20, 3) := by decide +kernel
theorem dX6_rules_10 : decode cX6_rules 10 = .ok (.iload_n 2, 1) := by decide +kernel
theorem dX6_rules_11 : decode cX6_rules 11 = .ok (.getstatic 108, 3) := by decide +kernel
theorem dX6_rules_14 : decode cX6_rules 14 = .ok (.iload_n 1, 1) := by decide +kernel
theorem dX6_rules_15 : decode cX6_rules 15 = .ok (.iaload, 1) := by decide +kernel
theorem dX6_rules_16 : decode cX6_rules 16 = .ok (.getstatic 111, 3) := by decide +kernel
theorem dX6_rules_19 : decode cX6_rules 19 = .ok (.iload_n 1, 1) := by decide +kernel
theorem dX6_rules_20 : decode cX6_rules 20 = .ok (.iaload, 1) := by decide +kernel
theorem dX6_rules_21 : decode cX6_rules 21 = .ok (.invokestatic 54, 3) := by decide +kernel
theorem dX6_rules_24 : decode cX6_rules 24 = .ok (.ifCond .ne 10, 3) := by decide +kernel
theorem dX6_rules_27 : decode cX6_rules 27 = .ok (.aload_n 0, 1) := by decide +kernel
theorem dX6_rules_28 : decode cX6_rules 28 = .ok (.bipush (-2), 2) := by decide +kernel
theorem dX6_rules_30 : decode cX6_rules 30 = .ok (.invokevirtual 61, 3) := by decide +kernel
theorem dX6_rules_33 : decode cX6_rules 33 = .ok (.ireturn, 1) := by decide +kernel
theorem dX6_rules_34 : decode cX6_rules 34 = .ok (.aload_n 0, 1) := by decide +kernel
theorem dX6_rules_35 : decode cX6_rules 35 = .ok (.getfield 30, 3) := by decide +kernel
theorem dX6_rules_38 : decode cX6_rules 38 = .ok (.iload_n 1, 1) := by decide +kernel
theorem dX6_rules_39 : decode cX6_rules 39 = .ok (.iaload, 1) := by decide +kernel
theorem dX6_rules_40 : decode cX6_rules 40 = .ok (.istore_n 3, 1) := by decide +kernel
theorem dX6_rules_41 : decode cX6_rules 41 = .ok (.aload_n 0, 1) := by decide +kernel
theorem dX6_rules_42 : decode cX6_rules 42 = .ok (.getfield 30, 3) := by decide +kernel
theorem dX6_rules_45 : decode cX6_rules 45 = .ok (.iload_n 1, 1) := by decide +kernel
theorem dX6_rules_46 : decode cX6_rules 46 = .ok (.iload_n 2, 1) := by decide +kernel
theorem dX6_rules_47 : decode cX6_rules 47 = .ok (.iastore, 1) := by decide +kernel
theorem dX6_rules_48 : decode cX6_rules 48 = .ok (.aload_n 0, 1) := by decide +kernel
theorem dX6_rules_49 : decode cX6_rules 49 = .ok (.invokevirtual 47, 3) := by decide +kernel
theorem dX6_rules_52 : decode cX6_rules 52 = .ok (.iload_n 3, 1) := by decide +kernel
theorem dX6_rules_53 : decode cX6_rules 53 = .ok (.ireturn, 1) := by decide +kernel
set_option maxRecDepth 20000 in
theorem ggX6_of_X6_isCell : GoodIn wsX6_of wsX6_isCell := goodIn_r _ [8, 9, 10, 7, 11] (by decide +kernel) (by decide +kernel)
set_option maxRecDepth 20000 in
theorem gX6_of_X6_isCell : GoodIn wsX6_of (va_wsS RX6 50 yX6_isCell wsX6_isCell) := goodIn_app (goodIn_of _ (by decide +kernel)) ggX6_of_X6_isCell
set_option maxRecDepth 20000 in
theorem ggX6_of_X6_isIn : GoodIn wsX6_of wsX6_isIn := goodIn_r _ [11] (by decide +kernel) (by decide +kernel)
set_option maxRecDepth 20000 in
theorem gX6_of_X6_isIn : GoodIn wsX6_of (va_wsS RX6 54 yX6_isIn wsX6_isIn) := goodIn_app (goodIn_of _ (by decide +kernel)) ggX6_of_X6_isIn
set_option maxRecDepth 20000 in
theorem ggX6_of_X6_refuse : GoodIn wsX6_of wsX6_refuse := goodIn_r _ [15, 16, 17, 18, 73, 74, 75, 76, 77, 78, 79] (by decide +kernel) (by decide +kernel)
set_option maxRecDepth 20000 in
theorem gX6_of_X6_refuse : GoodIn wsX6_of (wsV RX6 61 RX6 yX6_refuse wsX6_refuse) := goodIn_app (goodIn_of _ (by decide +kernel)) ggX6_of_X6_refuse
set_option maxRecDepth 20000 in
theorem ggX6_of_X1_may : GoodIn wsX6_of wsX1_may := goodIn_r _ [23, 24, 25, 26, 27, 28, 22, 29, 30, 31, 32, 33, 34, 35, 36, 37, 38, 39, 40, 41, 42, 43, 44, 45, 46, 47, 48, 49, 50, 51, 52, 53, 54, 55, 56, 57, 58, 59, 60, 61, 62, 63, 64, 65, 80, 81, 82, 83, 84, 85, 86, 87, 88, 97, 98, 99, 100, 101, 89, 90, 91, 92, 93, 94, 95, 96, 102, 103, 104, 105] (by decide +kernel) (by decide +kernel)
set_option maxRecDepth 20000 in
theorem gX6_of_X1_may : GoodIn wsX6_of (wsV RX6 114 RX1 yX1_may wsX1_may) := goodIn_app (goodIn_of _ (by decide +kernel)) ggX6_of_X1_may
set_option maxRecDepth 20000 in
theorem ggX6_of_X0_part : GoodIn wsX6_of wsX0_part := goodIn_r _ [69, 40, 39, 70, 71, 72, 97, 98, 99, 100, 101] (by decide +kernel) (by decide +kernel)
set_option maxRecDepth 20000 in
theorem gX6_of_X0_part : GoodIn wsX6_of (wsV RX6 73 RX0 yX0_part wsX0_part) := goodIn_app (goodIn_of _ (by decide +kernel)) ggX6_of_X0_part
theorem dX6_of_0 : decode cX6_of 0 = .ok (.iload_n 1, 1) := by decide +kernel
theorem dX6_of_1 : decode cX6_of 1 = .ok (.invokestatic 50, 3) := by decide +kernel
theorem dX6_of_4 : decode cX6_of 4 = .ok (.ifCond .eq 13, 3) := by decide +kernel
theorem dX6_of_7 : decode cX6_of 7 = .ok (.iload_n 2, 1) := by decide +kernel
theorem dX6_of_8 : decode cX6_of 8 = .ok (.iconst 0, 1) := by decide +kernel
theorem dX6_of_9 : decode cX6_of 9 = .ok (.bipush 6, 2) := by decide +kernel
theorem dX6_of_11 : decode cX6_of 11 = .ok (.invokestatic 54, 3) := by decide +kernel
theorem dX6_of_14 : decode cX6_of 14 = .ok (.ifCond .ne 10, 3) := by decide +kernel
theorem dX6_of_17 : decode cX6_of 17 = .ok (.aload_n 0, 1) := by decide +kernel
theorem dX6_of_18 : decode cX6_of 18 = .ok (.bipush (-2), 2) := by decide +kernel
theorem dX6_of_20 : decode cX6_of 20 = .ok (.invokevirtual 61, 3) := by decide +kernel
theorem dX6_of_23 : decode cX6_of 23 = .ok (.ireturn, 1) := by decide +kernel
theorem dX6_of_24 : decode cX6_of 24 = .ok (.iload_n 2, 1) := by decide +kernel
theorem dX6_of_25 : decode cX6_of 25 = .ok (.iconst 5, 1) := by decide +kernel
theorem dX6_of_26 : decode cX6_of 26 = .ok (.if_icmp .ne 20, 3) := by decide +kernel
theorem dX6_of_29 : decode cX6_of 29 = .ok (.aload_n 0, 1) := by decide +kernel
theorem dX6_of_30 : decode cX6_of 30 = .ok (.getfield 10, 3) := by decide +kernel
theorem dX6_of_33 : decode cX6_of 33 = .ok (.iload_n 1, 1) := by decide +kernel
theorem dX6_of_34 : decode cX6_of 34 = .ok (.invokevirtual 114, 3) := by decide +kernel
theorem dX6_of_37 : decode cX6_of 37 = .ok (.ifCond .eq 7, 3) := by decide +kernel
theorem dX6_of_40 : decode cX6_of 40 = .ok (.iconst 1, 1) := by decide +kernel
theorem dX6_of_41 : decode cX6_of 41 = .ok (.goto 4, 3) := by decide +kernel
theorem dX6_of_44 : decode cX6_of 44 = .ok (.iconst 0, 1) := by decide +kernel
theorem dX6_of_45 : decode cX6_of 45 = .ok (.ireturn, 1) := by decide +kernel
theorem dX6_of_46 : decode cX6_of 46 = .ok (.iload_n 2, 1) := by decide +kernel
theorem dX6_of_47 : decode cX6_of 47 = .ok (.bipush 6, 2) := by decide +kernel
theorem dX6_of_49 : decode cX6_of 49 = .ok (.if_icmp .ne 16, 3) := by decide +kernel
theorem dX6_of_52 : decode cX6_of 52 = .ok (.aload_n 0, 1) := by decide +kernel
theorem dX6_of_53 : decode cX6_of 53 = .ok (.getfield 10, 3) := by decide +kernel
theorem dX6_of_56 : decode cX6_of 56 = .ok (.getfield 117, 3) := by decide +kernel
theorem dX6_of_59 : decode cX6_of 59 = .ok (.getfield 121, 3) := by decide +kernel
theorem dX6_of_62 : decode cX6_of 62 = .ok (.iload_n 1, 1) := by decide +kernel
theorem dX6_of_63 : decode cX6_of 63 = .ok (.iaload, 1) := by decide +kernel
theorem dX6_of_64 : decode cX6_of 64 = .ok (.ireturn, 1) := by decide +kernel
theorem dX6_of_65 : decode cX6_of 65 = .ok (.aload_n 0, 1) := by decide +kernel
theorem dX6_of_66 : decode cX6_of 66 = .ok (.getfield 10, 3) := by decide +kernel
theorem dX6_of_69 : decode cX6_of 69 = .ok (.getfield 65, 3) := by decide +kernel
theorem dX6_of_72 : decode cX6_of 72 = .ok (.iload_n 2, 1) := by decide +kernel
theorem dX6_of_73 : decode cX6_of 73 = .ok (.invokevirtual 73, 3) := by decide +kernel
theorem dX6_of_76 : decode cX6_of 76 = .ok (.iload_n 1, 1) := by decide +kernel
theorem dX6_of_77 : decode cX6_of 77 = .ok (.iaload, 1) := by decide +kernel
theorem dX6_of_78 : decode cX6_of 78 = .ok (.ireturn, 1) := by decide +kernel
set_option maxRecDepth 20000 in
theorem ggX6_sum_X6_isCell : GoodIn wsX6_sum wsX6_isCell := goodIn_r _ [7, 8, 9, 6, 10] (by decide +kernel) (by decide +kernel)
set_option maxRecDepth 20000 in
theorem gX6_sum_X6_isCell : GoodIn wsX6_sum (va_wsS RX6 50 yX6_isCell wsX6_isCell) := goodIn_app (goodIn_of _ (by decide +kernel)) ggX6_sum_X6_isCell
set_option maxRecDepth 20000 in
theorem ggX6_sum_X6_refuse : GoodIn wsX6_sum wsX6_refuse := goodIn_r _ [14, 15, 16, 17, 18, 19, 20, 21, 22, 23, 24] (by decide +kernel) (by decide +kernel)
set_option maxRecDepth 20000 in
theorem gX6_sum_X6_refuse : GoodIn wsX6_sum (wsV RX6 61 RX6 yX6_refuse wsX6_refuse) := goodIn_app (goodIn_of _ (by decide +kernel)) ggX6_sum_X6_refuse
theorem dX6_sum_0 : decode cX6_sum 0 = .ok (.iload_n 1, 1) := by decide +kernel
theorem dX6_sum_1 : decode cX6_sum 1 = .ok (.invokestatic 50, 3) := by decide +kernel
theorem dX6_sum_4 : decode cX6_sum 4 = .ok (.ifCond .eq 18, 3) := by decide +kernel
theorem dX6_sum_7 : decode cX6_sum 7 = .ok (.aload_n 0, 1) := by decide +kernel
theorem dX6_sum_8 : decode cX6_sum 8 = .ok (.getfield 10, 3) := by decide +kernel
theorem dX6_sum_11 : decode cX6_sum 11 = .ok (.getfield 117, 3) := by decide +kernel
theorem dX6_sum_14 : decode cX6_sum 14 = .ok (.getfield 126, 3) := by decide +kernel
theorem dX6_sum_17 : decode cX6_sum 17 = .ok (.iload_n 1, 1) := by decide +kernel
theorem dX6_sum_18 : decode cX6_sum 18 = .ok (.iaload, 1) := by decide +kernel
theorem dX6_sum_19 : decode cX6_sum 19 = .ok (.goto 9, 3) := by decide +kernel
theorem dX6_sum_22 : decode cX6_sum 22 = .ok (.aload_n 0, 1) := by decide +kernel
theorem dX6_sum_23 : decode cX6_sum 23 = .ok (.bipush (-2), 2) := by decide +kernel
theorem dX6_sum_25 : decode cX6_sum 25 = .ok (.invokevirtual 61, 3) := by decide +kernel
theorem dX6_sum_28 : decode cX6_sum 28 = .ok (.ireturn, 1) := by decide +kernel
set_option maxRecDepth 20000 in
theorem ggX6_windows_X5_count : GoodIn wsX6_windows wsX5_count := goodIn_r _ [7, 8, 9, 57, 58, 59, 60, 61, 62, 63, 64] (by decide +kernel) (by decide +kernel)
set_option maxRecDepth 20000 in
theorem gX6_windows_X5_count : GoodIn wsX6_windows (wsV RX6 129 RX5 yX5_count wsX5_count) := goodIn_app (goodIn_of _ (by decide +kernel)) ggX6_windows_X5_count
set_option maxRecDepth 20000 in
theorem ggX6_windows_X5_countThin : GoodIn wsX6_windows wsX5_countThin := goodIn_r _ [13, 14, 15, 16, 6, 17, 18, 19, 57, 58, 59, 60, 61, 62, 63, 64] (by decide +kernel) (by decide +kernel)
set_option maxRecDepth 20000 in
theorem gX6_windows_X5_countThin : GoodIn wsX6_windows (wsV RX6 133 RX5 yX5_countThin wsX5_countThin) := goodIn_app (goodIn_of _ (by decide +kernel)) ggX6_windows_X5_countThin
set_option maxRecDepth 20000 in
theorem ggX6_windows_X5_countThick : GoodIn wsX6_windows wsX5_countThick := goodIn_r _ [23, 18, 24, 57, 58, 59, 60, 61, 62, 63, 64] (by decide +kernel) (by decide +kernel)
set_option maxRecDepth 20000 in
theorem gX6_windows_X5_countThick : GoodIn wsX6_windows (wsV RX6 136 RX5 yX5_countThick wsX5_countThick) := goodIn_app (goodIn_of _ (by decide +kernel)) ggX6_windows_X5_countThick
set_option maxRecDepth 20000 in
theorem ggX6_windows_X5_countUnlike : GoodIn wsX6_windows wsX5_countUnlike := goodIn_r _ [28, 29, 30, 31, 6, 32, 18, 57, 58, 59, 60, 61, 62, 63, 64] (by decide +kernel) (by decide +kernel)
set_option maxRecDepth 20000 in
theorem gX6_windows_X5_countUnlike : GoodIn wsX6_windows (wsV RX6 139 RX5 yX5_countUnlike wsX5_countUnlike) := goodIn_app (goodIn_of _ (by decide +kernel)) ggX6_windows_X5_countUnlike
set_option maxRecDepth 20000 in
theorem ggX6_windows_X6_refuse : GoodIn wsX6_windows wsX6_refuse := goodIn_r _ [37, 38, 39, 40, 41, 42, 43, 44, 45, 46, 47] (by decide +kernel) (by decide +kernel)
set_option maxRecDepth 20000 in
theorem gX6_windows_X6_refuse : GoodIn wsX6_windows (wsV RX6 61 RX6 yX6_refuse wsX6_refuse) := goodIn_app (goodIn_of _ (by decide +kernel)) ggX6_windows_X6_refuse
theorem dX6_windows_0 : decode cX6_windows 0 = .ok (.iload_n 1, 1) := by decide +kernel
theorem dX6_windows_1 : decode cX6_windows 1 = .ok (.tableswitch 75 0 3 #[31, 42, 53, 64], 31) := by decide +kernel
theorem dX6_windows_32 : decode cX6_windows 32 = .ok (.aload_n 0, 1) := by decide +kernel
theorem dX6_windows_33 : decode cX6_windows 33 = .ok (.getfield 10, 3) := by decide +kernel
theorem dX6_windows_36 : decode cX6_windows 36 = .ok (.getfield 117, 3) := by decide +kernel
theorem dX6_windows_39 : decode cX6_windows 39 = .ok (.invokevirtual 129, 3) := by decide +kernel
theorem dX6_windows_42 : decode cX6_windows 42 = .ok (.ireturn, 1) := by decide +kernel
theorem dX6_windows_43 : decode cX6_windows 43 = .ok (.aload_n 0, 1) := by decide +kernel
theorem dX6_windows_44 : decode cX6_windows 44 = .ok (.getfield 10, 3) := by decide +kernel
theorem dX6_windows_47 : decode cX6_windows 47 = .ok (.getfield 117, 3) := by decide +kernel
theorem dX6_windows_50 : decode cX6_windows 50 = .ok (.invokevirtual 133, 3) := by decide +kernel
theorem dX6_windows_53 : decode cX6_windows 53 = .ok (.ireturn, 1) := by decide +kernel
theorem dX6_windows_54 : decode cX6_windows 54 = .ok (.aload_n 0, 1) := by decide +kernel
theorem dX6_windows_55 : decode cX6_windows 55 = .ok (.getfield 10, 3) := by decide +kernel
theorem dX6_windows_58 : decode cX6_windows 58 = .ok (.getfield 117, 3) := by decide +kernel
theorem dX6_windows_61 : decode cX6_windows 61 = .ok (.invokevirtual 136, 3) := by decide +kernel
theorem dX6_windows_64 : decode cX6_windows 64 = .ok (.ireturn, 1) := by decide +kernel
theorem dX6_windows_65 : decode cX6_windows 65 = .ok (.aload_n 0, 1) := by decide +kernel
theorem dX6_windows_66 : decode cX6_windows 66 = .ok (.getfield 10, 3) := by decide +kernel
theorem dX6_windows_69 : decode cX6_windows 69 = .ok (.getfield 117, 3) := by decide +kernel
theorem dX6_windows_72 : decode cX6_windows 72 = .ok (.invokevirtual 139, 3) := by decide +kernel
theorem dX6_windows_75 : decode cX6_windows 75 = .ok (.ireturn, 1) := by decide +kernel
theorem dX6_windows_76 : decode cX6_windows 76 = .ok (.aload_n 0, 1) := by decide +kernel
theorem dX6_windows_77 : decode cX6_windows 77 = .ok (.bipush (-2), 2) := by decide +kernel
theorem dX6_windows_79 : decode cX6_windows 79 = .ok (.invokevirtual 61, 3) := by decide +kernel
theorem dX6_windows_82 : decode cX6_windows 82 = .ok (.ireturn, 1) := by decide +kernel
set_option maxRecDepth 20000 in
theorem ggX6_worst_X5_atLeast : GoodIn wsX6_worst wsX5_atLeast := goodIn_r _ [8, 9, 38, 39, 40, 41, 42, 43, 44, 45] (by decide +kernel) (by decide +kernel)
set_option maxRecDepth 20000 in
theorem gX6_worst_X5_atLeast : GoodIn wsX6_worst (wsV RX6 142 RX5 yX5_atLeast wsX5_atLeast) := goodIn_app (goodIn_of _ (by decide +kernel)) ggX6_worst_X5_atLeast
set_option maxRecDepth 20000 in
theorem ggX6_worst_X5_atGreatest : GoodIn wsX6_worst wsX5_atGreatest := goodIn_r _ [13, 9, 38, 39, 40, 41, 42, 43, 44, 45] (by decide +kernel) (by decide +kernel)
set_option maxRecDepth 20000 in
theorem gX6_worst_X5_atGreatest : GoodIn wsX6_worst (wsV RX6 145 RX5 yX5_atGreatest wsX5_atGreatest) := goodIn_app (goodIn_of _ (by decide +kernel)) ggX6_worst_X5_atGreatest
set_option maxRecDepth 20000 in
theorem ggX6_worst_X6_refuse : GoodIn wsX6_worst wsX6_refuse := goodIn_r _ [18, 19, 20, 21, 22, 23, 24, 25, 26, 27, 28] (by decide +kernel) (by decide +kernel)
set_option maxRecDepth 20000 in
theorem gX6_worst_X6_refuse : GoodIn wsX6_worst (wsV RX6 61 RX6 yX6_refuse wsX6_refuse) := goodIn_app (goodIn_of _ (by decide +kernel)) ggX6_worst_X6_refuse
theorem dX6_worst_0 : decode cX6_worst 0 = .ok (.iload_n 1, 1) := by decide +kernel
theorem dX6_worst_1 : decode cX6_worst 1 = .ok (.tableswitch 97 0 3 #[31, 42, 53, 75], 31) := by decide +kernel
theorem dX6_worst_32 : decode cX6_worst 32 = .ok (.aload_n 0, 1) := by decide +kernel
theorem dX6_worst_33 : decode cX6_worst 33 = .ok (.getfield 10, 3) := by decide +kernel
theorem dX6_worst_36 : decode cX6_worst 36 = .ok (.getfield 117, 3) := by decide +kernel
theorem dX6_worst_39 : decode cX6_worst 39 = .ok (.invokevirtual 142, 3) := by decide +kernel
theorem dX6_worst_42 : decode cX6_worst 42 = .ok (.ireturn, 1) := by decide +kernel
theorem dX6_worst_43 : decode cX6_worst 43 = .ok (.aload_n 0, 1) := by decide +kernel
theorem dX6_worst_44 : decode cX6_worst 44 = .ok (.getfield 10, 3) := by decide +kernel
theorem dX6_worst_47 : decode cX6_worst 47 = .ok (.getfield 117, 3) := by decide +kernel
theorem dX6_worst_50 : decode cX6_worst 50 = .ok (.invokevirtual 145, 3) := by decide +kernel
theorem dX6_worst_53 : decode cX6_worst 53 = .ok (.ireturn, 1) := by decide +kernel
theorem dX6_worst_54 : decode cX6_worst 54 = .ok (.aload_n 0, 1) := by decide +kernel
theorem dX6_worst_55 : decode cX6_worst 55 = .ok (.getfield 10, 3) := by decide +kernel
theorem dX6_worst_58 : decode cX6_worst 58 = .ok (.getfield 117, 3) := by decide +kernel
theorem dX6_worst_61 : decode cX6_worst 61 = .ok (.getfield 126, 3) := by decide +kernel
theorem dX6_worst_64 : decode cX6_worst 64 = .ok (.aload_n 0, 1) := by decide +kernel
theorem dX6_worst_65 : decode cX6_worst 65 = .ok (.getfield 10, 3) := by decide +kernel
theorem dX6_worst_68 : decode cX6_worst 68 = .ok (.getfield 117, 3) := by decide +kernel
theorem dX6_worst_71 : decode cX6_worst 71 = .ok (.invokevirtual 142, 3) := by decide +kernel
theorem dX6_worst_74 : decode cX6_worst 74 = .ok (.iaload, 1) := by decide +kernel
theorem dX6_worst_75 : decode cX6_worst 75 = .ok (.ireturn, 1) := by decide +kernel
theorem dX6_worst_76 : decode cX6_worst 76 = .ok (.aload_n 0, 1) := by decide +kernel
theorem dX6_worst_77 : decode cX6_worst 77 = .ok (.getfield 10, 3) := by decide +kernel
theorem dX6_worst_80 : decode cX6_worst 80 = .ok (.getfield 117, 3) := by decide +kernel
theorem dX6_worst_83 : decode cX6_worst 83 = .ok (.getfield 126, 3) := by decide +kernel
theorem dX6_worst_86 : decode cX6_worst 86 = .ok (.aload_n 0, 1) := by decide +kernel
theorem dX6_worst_87 : decode cX6_worst 87 = .ok (.getfield 10, 3) := by decide +kernel
theorem dX6_worst_90 : decode cX6_worst 90 = .ok (.getfield 117, 3) := by decide +kernel
theorem dX6_worst_93 : decode cX6_worst 93 = .ok (.invokevirtual 145, 3) := by decide +kernel
theorem dX6_worst_96 : decode cX6_worst 96 = .ok (.iaload, 1) := by decide +kernel
theorem dX6_worst_97 : decode cX6_worst 97 = .ok (.ireturn, 1) := by decide +kernel
theorem dX6_worst_98 : decode cX6_worst 98 = .ok (.aload_n 0, 1) := by decide +kernel
theorem dX6_worst_99 : decode cX6_worst 99 = .ok (.bipush (-2), 2) := by decide +kernel
theorem dX6_worst_101 : decode cX6_worst 101 = .ok (.invokevirtual 61, 3) := by decide +kernel
theorem dX6_worst_104 : decode cX6_worst 104 = .ok (.ireturn, 1) := by decide +kernel
set_option maxRecDepth 20000 in
theorem ggX6_order_X6_isIn : GoodIn wsX6_order wsX6_isIn := goodIn_r _ [6] (by decide +kernel) (by decide +kernel)
set_option maxRecDepth 20000 in
theorem gX6_order_X6_isIn : GoodIn wsX6_order (va_wsS RX6 54 yX6_isIn wsX6_isIn) := goodIn_app (goodIn_of _ (by decide +kernel)) ggX6_order_X6_isIn
set_option maxRecDepth 20000 in
theorem ggX6_order_X6_refuse : GoodIn wsX6_order wsX6_refuse := goodIn_r _ [10, 11, 12, 13, 28, 29, 30, 31, 32, 33, 34] (by decide +kernel) (by decide +kernel)
set_option maxRecDepth 20000 in
theorem gX6_order_X6_refuse : GoodIn wsX6_order (wsV RX6 61 RX6 yX6_refuse wsX6_refuse) := goodIn_app (goodIn_of _ (by decide +kernel)) ggX6_order_X6_refuse
set_option maxRecDepth 20000 in
theorem ggX6_order_X5_unlikeSum : GoodIn wsX6_order wsX5_unlikeSum := goodIn_r _ [18, 19, 20, 21, 17, 22, 23, 44, 45, 46, 47, 48, 49, 50, 51] (by decide +kernel) (by decide +kernel)
set_option maxRecDepth 20000 in
theorem gX6_order_X5_unlikeSum : GoodIn wsX6_order (wsV RX6 148 RX5 yX5_unlikeSum wsX5_unlikeSum) := goodIn_app (goodIn_of _ (by decide +kernel)) ggX6_order_X5_unlikeSum
set_option maxRecDepth 20000 in
theorem ggX6_order_X5_countOf : GoodIn wsX6_order wsX5_countOf := goodIn_r _ [27, 23, 44, 45, 46, 47, 48, 49, 50, 51] (by decide +kernel) (by decide +kernel)
set_option maxRecDepth 20000 in
theorem gX6_order_X5_countOf : GoodIn wsX6_order (wsV RX6 151 RX5 yX5_countOf wsX5_countOf) := goodIn_app (goodIn_of _ (by decide +kernel)) ggX6_order_X5_countOf
theorem dX6_order_0 : decode cX6_order 0 = .ok (.iload_n 1, 1) := by decide +kernel
theorem dX6_order_1 : decode cX6_order 1 = .ok (.ifCond .lt 12, 3) := by decide +kernel
theorem dX6_order_4 : decode cX6_order 4 = .ok (.iload_n 2, 1) := by decide +kernel
theorem dX6_order_5 : decode cX6_order 5 = .ok (.iconst 0, 1) := by decide +kernel
theorem dX6_order_6 : decode cX6_order 6 = .ok (.iconst 1, 1) := by decide +kernel
theorem dX6_order_7 : decode cX6_order 7 = .ok (.invokestatic 54, 3) := by decide +kernel
theorem dX6_order_10 : decode cX6_order 10 = .ok (.ifCond .ne 10, 3) := by decide +kernel
theorem dX6_order_13 : decode cX6_order 13 = .ok (.aload_n 0, 1) := by decide +kernel
theorem dX6_order_14 : decode cX6_order 14 = .ok (.bipush (-2), 2) := by decide +kernel
theorem dX6_order_16 : decode cX6_order 16 = .ok (.invokevirtual 61, 3) := by decide +kernel
theorem dX6_order_19 : decode cX6_order 19 = .ok (.ireturn, 1) := by decide +kernel
theorem dX6_order_20 : decode cX6_order 20 = .ok (.aload_n 0, 1) := by decide +kernel
theorem dX6_order_21 : decode cX6_order 21 = .ok (.getfield 10, 3) := by decide +kernel
theorem dX6_order_24 : decode cX6_order 24 = .ok (.getfield 117, 3) := by decide +kernel
theorem dX6_order_27 : decode cX6_order 27 = .ok (.iload_n 1, 1) := by decide +kernel
theorem dX6_order_28 : decode cX6_order 28 = .ok (.invokevirtual 148, 3) := by decide +kernel
theorem dX6_order_31 : decode cX6_order 31 = .ok (.istore_n 3, 1) := by decide +kernel
theorem dX6_order_32 : decode cX6_order 32 = .ok (.iload_n 2, 1) := by decide +kernel
theorem dX6_order_33 : decode cX6_order 33 = .ok (.ifCond .eq 8, 3) := by decide +kernel
theorem dX6_order_36 : decode cX6_order 36 = .ok (.iload_n 3, 1) := by decide +kernel
theorem dX6_order_37 : decode cX6_order 37 = .ok (.iconst (-1), 1) := by decide +kernel
theorem dX6_order_38 : decode cX6_order 38 = .ok (.if_icmp .ne 7, 3) := by decide +kernel
theorem dX6_order_41 : decode cX6_order 41 = .ok (.iload_n 3, 1) := by decide +kernel
theorem dX6_order_42 : decode cX6_order 42 = .ok (.goto 14, 3) := by decide +kernel
theorem dX6_order_45 : decode cX6_order 45 = .ok (.aload_n 0, 1) := by decide +kernel
theorem dX6_order_46 : decode cX6_order 46 = .ok (.getfield 10, 3) := by decide +kernel
theorem dX6_order_49 : decode cX6_order 49 = .ok (.getfield 117, 3) := by decide +kernel
theorem dX6_order_52 : decode cX6_order 52 = .ok (.iload_n 3, 1) := by decide +kernel
theorem dX6_order_53 : decode cX6_order 53 = .ok (.invokevirtual 151, 3) := by decide +kernel
theorem dX6_order_56 : decode cX6_order 56 = .ok (.ireturn, 1) := by decide +kernel
set_option maxRecDepth 20000 in
theorem ggX6_turn_X6_refuse : GoodIn wsX6_turn wsX6_refuse := goodIn_r _ [7, 8, 9, 10, 29, 30, 31, 32, 33, 34, 35] (by decide +kernel) (by decide +kernel)
set_option maxRecDepth 20000 in
theorem gX6_turn_X6_refuse : GoodIn wsX6_turn (wsV RX6 61 RX6 yX6_refuse wsX6_refuse) := goodIn_app (goodIn_of _ (by decide +kernel)) ggX6_turn_X6_refuse
set_option maxRecDepth 20000 in
theorem ggX6_turn_X5_rising : GoodIn wsX6_turn wsX5_rising := goodIn_r _ [15, 16, 17, 18, 14, 19, 20, 21, 22, 23, 24, 25, 26, 27, 28, 45, 46, 47, 48, 49, 50, 51, 52] (by decide +kernel) (by decide +kernel)
set_option maxRecDepth 20000 in
theorem gX6_turn_X5_rising : GoodIn wsX6_turn (wsV RX6 154 RX5 yX5_rising wsX5_rising) := goodIn_app (goodIn_of _ (by decide +kernel)) ggX6_turn_X5_rising
theorem dX6_turn_0 : decode cX6_turn 0 = .ok (.iload_n 1, 1) := by decide +kernel
theorem dX6_turn_1 : decode cX6_turn 1 = .ok (.ifCond .ge 12, 3) := by decide +kernel
theorem dX6_turn_4 : decode cX6_turn 4 = .ok (.aload_n 0, 1) := by decide +kernel
theorem dX6_turn_5 : decode cX6_turn 5 = .ok (.bipush (-2), 2) := by decide +kernel
theorem dX6_turn_7 : decode cX6_turn 7 = .ok (.invokevirtual 61, 3) := by decide +kernel
theorem dX6_turn_10 : decode cX6_turn 10 = .ok (.goto 14, 3) := by decide +kernel
theorem dX6_turn_13 : decode cX6_turn 13 = .ok (.aload_n 0, 1) := by decide +kernel
theorem dX6_turn_14 : decode cX6_turn 14 = .ok (.getfield 10, 3) := by decide +kernel
theorem dX6_turn_17 : decode cX6_turn 17 = .ok (.getfield 117, 3) := by decide +kernel
theorem dX6_turn_20 : decode cX6_turn 20 = .ok (.iload_n 1, 1) := by decide +kernel
theorem dX6_turn_21 : decode cX6_turn 21 = .ok (.invokevirtual 154, 3) := by decide +kernel
theorem dX6_turn_24 : decode cX6_turn 24 = .ok (.ireturn, 1) := by decide +kernel
set_option maxRecDepth 20000 in
theorem ggX6_burden_X6_isIn : GoodIn wsX6_burden wsX6_isIn := goodIn_r _ [7] (by decide +kernel) (by decide +kernel)
set_option maxRecDepth 20000 in
theorem gX6_burden_X6_isIn : GoodIn wsX6_burden (va_wsS RX6 54 yX6_isIn wsX6_isIn) := goodIn_app (goodIn_of _ (by decide +kernel)) ggX6_burden_X6_isIn
set_option maxRecDepth 20000 in
theorem ggX6_burden_X6_refuse : GoodIn wsX6_burden wsX6_refuse := goodIn_r _ [11, 12, 13, 14, 15, 16, 17, 18, 19, 20, 21] (by decide +kernel) (by decide +kernel)
set_option maxRecDepth 20000 in
theorem gX6_burden_X6_refuse : GoodIn wsX6_burden (wsV RX6 61 RX6 yX6_refuse wsX6_refuse) := goodIn_app (goodIn_of _ (by decide +kernel)) ggX6_burden_X6_refuse
theorem dX6_burden_0 : decode cX6_burden 0 = .ok (.iload_n 1, 1) := by decide +kernel
theorem dX6_burden_1 : decode cX6_burden 1 = .ok (.iconst 1, 1) := by decide +kernel
theorem dX6_burden_2 : decode cX6_burden 2 = .ok (.iconst 3, 1) := by decide +kernel
theorem dX6_burden_3 : decode cX6_burden 3 = .ok (.invokestatic 54, 3) := by decide +kernel
theorem dX6_burden_6 : decode cX6_burden 6 = .ok (.ifCond .eq 18, 3) := by decide +kernel
theorem dX6_burden_9 : decode cX6_burden 9 = .ok (.aload_n 0, 1) := by decide +kernel
theorem dX6_burden_10 : decode cX6_burden 10 = .ok (.getfield 10, 3) := by decide +kernel
theorem dX6_burden_13 : decode cX6_burden 13 = .ok (.getfield 157, 3) := by decide +kernel
theorem dX6_burden_16 : decode cX6_burden 16 = .ok (.getfield 161, 3) := by decide +kernel
theorem dX6_burden_19 : decode cX6_burden 19 = .ok (.iload_n 1, 1) := by decide +kernel
theorem dX6_burden_20 : decode cX6_burden 20 = .ok (.iaload, 1) := by decide +kernel
theorem dX6_burden_21 : decode cX6_burden 21 = .ok (.goto 9, 3) := by decide +kernel
theorem dX6_burden_24 : decode cX6_burden 24 = .ok (.aload_n 0, 1) := by decide +kernel
theorem dX6_burden_25 : decode cX6_burden 25 = .ok (.bipush (-2), 2) := by decide +kernel
theorem dX6_burden_27 : decode cX6_burden 27 = .ok (.invokevirtual 61, 3) := by decide +kernel
theorem dX6_burden_30 : decode cX6_burden 30 = .ok (.ireturn, 1) := by decide +kernel
set_option maxRecDepth 20000 in
theorem ggX6_all_X6_total : GoodIn wsX6_all wsX6_total := goodIn_r _ [9] (by decide +kernel) (by decide +kernel)
set_option maxRecDepth 20000 in
theorem gX6_all_X6_total : GoodIn wsX6_all (va_wsS RX6 104 yX6_total wsX6_total) := goodIn_app (goodIn_of _ (by decide +kernel)) ggX6_all_X6_total
set_option maxRecDepth 20000 in
theorem ggX6_all_X0_countFilled : GoodIn wsX6_all wsX0_countFilled := goodIn_r _ [14, 15, 39, 40, 41, 42, 43] (by decide +kernel) (by decide +kernel)
set_option maxRecDepth 20000 in
theorem gX6_all_X0_countFilled : GoodIn wsX6_all (wsV RX6 166 RX0 yX0_countFilled wsX0_countFilled) := goodIn_app (goodIn_of _ (by decide +kernel)) ggX6_all_X0_countFilled
set_option maxRecDepth 20000 in
theorem ggX6_all_X6_refuse : GoodIn wsX6_all wsX6_refuse := goodIn_r _ [19, 20, 21, 22, 23, 24, 25, 26, 27, 28, 29] (by decide +kernel) (by decide +kernel)
set_option maxRecDepth 20000 in
theorem gX6_all_X6_refuse : GoodIn wsX6_all (wsV RX6 61 RX6 yX6_refuse wsX6_refuse) := goodIn_app (goodIn_of _ (by decide +kernel)) ggX6_all_X6_refuse
theorem dX6_all_0 : decode cX6_all 0 = .ok (.iload_n 1, 1) := by decide +kernel
theorem dX6_all_1 : decode cX6_all 1 = .ok (.tableswitch 84 0 3 #[31, 45, 59, 70], 31) := by decide +kernel
theorem dX6_all_32 : decode cX6_all 32 = .ok (.aload_n 0, 1) := by decide +kernel
theorem dX6_all_33 : decode cX6_all 33 = .ok (.getfield 10, 3) := by decide +kernel
theorem dX6_all_36 : decode cX6_all 36 = .ok (.getfield 65, 3) := by decide +kernel
theorem dX6_all_39 : decode cX6_all 39 = .ok (.getfield 93, 3) := by decide +kernel
theorem dX6_all_42 : decode cX6_all 42 = .ok (.invokestatic 104, 3) := by decide +kernel
theorem dX6_all_45 : decode cX6_all 45 = .ok (.ireturn, 1) := by decide +kernel
theorem dX6_all_46 : decode cX6_all 46 = .ok (.aload_n 0, 1) := by decide +kernel
theorem dX6_all_47 : decode cX6_all 47 = .ok (.getfield 10, 3) := by decide +kernel
theorem dX6_all_50 : decode cX6_all 50 = .ok (.getfield 65, 3) := by decide +kernel
theorem dX6_all_53 : decode cX6_all 53 = .ok (.getfield 101, 3) := by decide +kernel
theorem dX6_all_56 : decode cX6_all 56 = .ok (.invokestatic 104, 3) := by decide +kernel
theorem dX6_all_59 : decode cX6_all 59 = .ok (.ireturn, 1) := by decide +kernel
theorem dX6_all_60 : decode cX6_all 60 = .ok (.aload_n 0, 1) := by decide +kernel
theorem dX6_all_61 : decode cX6_all 61 = .ok (.getfield 10, 3) := by decide +kernel
theorem dX6_all_64 : decode cX6_all 64 = .ok (.getfield 65, 3) := by decide +kernel
theorem dX6_all_67 : decode cX6_all 67 = .ok (.invokevirtual 166, 3) := by decide +kernel
theorem dX6_all_70 : decode cX6_all 70 = .ok (.ireturn, 1) := by decide +kernel
theorem dX6_all_71 : decode cX6_all 71 = .ok (.aload_n 0, 1) := by decide +kernel
theorem dX6_all_72 : decode cX6_all 72 = .ok (.getfield 10, 3) := by decide +kernel
theorem dX6_all_75 : decode cX6_all 75 = .ok (.getfield 65, 3) := by decide +kernel
theorem dX6_all_78 : decode cX6_all 78 = .ok (.getfield 169, 3) := by decide +kernel
theorem dX6_all_81 : decode cX6_all 81 = .ok (.invokestatic 104, 3) := by decide +kernel
theorem dX6_all_84 : decode cX6_all 84 = .ok (.ireturn, 1) := by decide +kernel
theorem dX6_all_85 : decode cX6_all 85 = .ok (.aload_n 0, 1) := by decide +kernel
theorem dX6_all_86 : decode cX6_all 86 = .ok (.bipush (-2), 2) := by decide +kernel
theorem dX6_all_88 : decode cX6_all 88 = .ok (.invokevirtual 61, 3) := by decide +kernel
theorem dX6_all_91 : decode cX6_all 91 = .ok (.ireturn, 1) := by decide +kernel
set_option maxRecDepth 20000 in
theorem ggX6_more_X6_isCell : GoodIn wsX6_more wsX6_isCell := goodIn_r _ [5, 6, 7, 4, 8] (by decide +kernel) (by decide +kernel)
set_option maxRecDepth 20000 in
theorem gX6_more_X6_isCell : GoodIn wsX6_more (va_wsS RX6 50 yX6_isCell wsX6_isCell) := goodIn_app (goodIn_of _ (by decide +kernel)) ggX6_more_X6_isCell
set_option maxRecDepth 20000 in
theorem ggX6_more_X6_refuse : GoodIn wsX6_more wsX6_refuse := goodIn_r _ [12, 13, 14, 15, 133, 134, 135, 136, 137, 138, 139] (by decide +kernel) (by decide +kernel)
set_option maxRecDepth 20000 in
theorem gX6_more_X6_refuse : GoodIn wsX6_more (wsV RX6 61 RX6 yX6_refuse wsX6_refuse) := goodIn_app (goodIn_of _ (by decide +kernel)) ggX6_more_X6_refuse
set_option maxRecDepth 20000 in
theorem ggX6_more_X1_may : GoodIn wsX6_more wsX1_may := goodIn_r _ [20, 21, 22, 23, 24, 25, 19, 26, 27, 28, 29, 30, 31, 32, 33, 34, 35, 36, 37, 38, 39, 40, 41, 42, 43, 44, 45, 46, 47, 48, 49, 50, 51, 52, 53, 54, 55, 56, 57, 58, 59, 60, 61, 62, 140, 141, 142, 143, 144, 145, 146, 147, 148, 149, 150, 151, 152, 153, 154, 155, 156, 157, 158, 159, 160, 161, 162, 163, 164, 165] (by decide +kernel) (by decide +kernel)
set_option maxRecDepth 20000 in
theorem gX6_more_X1_may : GoodIn wsX6_more (wsV RX6 114 RX1 yX1_may wsX1_may) := goodIn_app (goodIn_of _ (by decide +kernel)) ggX6_more_X1_may
set_option maxRecDepth 20000 in
theorem ggX6_more_X6_changeFamily : GoodIn wsX6_more wsX6_changeFamily := goodIn_r _ [66, 67, 1, 68, 69, 70, 71, 72, 73, 74, 75, 76, 77, 78, 79, 80, 81, 82, 83, 84, 34, 85, 37, 86, 36, 87, 88, 89, 90, 91, 19, 92, 21, 22, 27, 28, 30, 93, 94, 95, 58, 96, 97, 98, 99, 100, 101, 102, 103, 104, 105, 106, 107, 108, 109, 61, 110, 111, 112, 113, 114, 115, 116, 117, 118, 119, 120, 62, 121, 122, 123, 124, 125, 126, 127, 41, 128, 49, 43, 129, 130, 131, 132, 133, 134, 135, 136, 137, 138, 139, 140, 141, 142, 143, 144, 145, 146, 147, 148, 149, 150, 151, 152, 153, 166, 167, 168, 154, 155, 156, 157, 158, 159, 160, 161, 162, 163, 164, 165] (by decide +kernel) (by decide +kernel)
set_option maxRecDepth 20000 in
theorem gX6_more_X6_changeFamily : GoodIn wsX6_more (wsV RX6 172 RX6 yX6_changeFamily wsX6_changeFamily) := goodIn_app (goodIn_of _ (by decide +kernel)) ggX6_more_X6_changeFamily
theorem dX6_more_0 : decode cX6_more 0 = .ok (.iload_n 1, 1) := by decide +kernel
theorem dX6_more_1 : decode cX6_more 1 = .ok (.invokestatic 50, 3) := by decide +kernel
theorem dX6_more_4 : decode cX6_more 4 = .ok (.ifCond .ne 10, 3) := by decide +kernel
theorem dX6_more_7 : decode cX6_more 7 = .ok (.aload_n 0, 1) := by decide +kernel
theorem dX6_more_8 : decode cX6_more 8 = .ok (.bipush (-2), 2) := by decide +kernel
theorem dX6_more_10 : decode cX6_more 10 = .ok (.invokevirtual 61, 3) := by decide +kernel
theorem dX6_more_13 : decode cX6_more 13 = .ok (.ireturn, 1) := by decide +kernel
theorem dX6_more_14 : decode cX6_more 14 = .ok (.aload_n 0, 1) := by decide +kernel
theorem dX6_more_15 : decode cX6_more 15 = .ok (.getfield 10, 3) := by decide +kernel
theorem dX6_more_18 : decode cX6_more 18 = .ok (.iload_n 1, 1) := by decide +kernel
theorem dX6_more_19 : decode cX6_more 19 = .ok (.invokevirtual 114, 3) := by decide +kernel
theorem dX6_more_22 : decode cX6_more 22 = .ok (.ifCond .ne 10, 3) := by decide +kernel
theorem dX6_more_25 : decode cX6_more 25 = .ok (.aload_n 0, 1) := by decide +kernel
theorem dX6_more_26 : decode cX6_more 26 = .ok (.bipush (-3), 2) := by decide +kernel
theorem dX6_more_28 : decode cX6_more 28 = .ok (.invokevirtual 61, 3) := by decide +kernel
theorem dX6_more_31 : decode cX6_more 31 = .ok (.ireturn, 1) := by decide +kernel
theorem dX6_more_32 : decode cX6_more 32 = .ok (.aload_n 0, 1) := by decide +kernel
theorem dX6_more_33 : decode cX6_more 33 = .ok (.iload_n 1, 1) := by decide +kernel
theorem dX6_more_34 : decode cX6_more 34 = .ok (.iconst 1, 1) := by decide +kernel
theorem dX6_more_35 : decode cX6_more 35 = .ok (.invokevirtual 172, 3) := by decide +kernel
theorem dX6_more_38 : decode cX6_more 38 = .ok (.ireturn, 1) := by decide +kernel
set_option maxRecDepth 20000 in
theorem ggX6_less_X6_isCell : GoodIn wsX6_less wsX6_isCell := goodIn_r _ [7, 8, 9, 6, 10] (by decide +kernel) (by decide +kernel)
set_option maxRecDepth 20000 in
theorem gX6_less_X6_isCell : GoodIn wsX6_less (va_wsS RX6 50 yX6_isCell wsX6_isCell) := goodIn_app (goodIn_of _ (by decide +kernel)) ggX6_less_X6_isCell
set_option maxRecDepth 20000 in
theorem ggX6_less_X6_refuse : GoodIn wsX6_less wsX6_refuse := goodIn_r _ [14, 15, 16, 17, 101, 102, 103, 104, 105, 106, 107] (by decide +kernel) (by decide +kernel)
set_option maxRecDepth 20000 in
theorem gX6_less_X6_refuse : GoodIn wsX6_less (wsV RX6 61 RX6 yX6_refuse wsX6_refuse) := goodIn_app (goodIn_of _ (by decide +kernel)) ggX6_less_X6_refuse
set_option maxRecDepth 20000 in
theorem ggX6_less_X6_changeFamily : GoodIn wsX6_less wsX6_changeFamily := goodIn_r _ [21, 22, 1, 2, 3, 23, 24, 25, 26, 27, 28, 29, 30, 31, 32, 33, 34, 35, 36, 37, 38, 39, 40, 41, 42, 43, 44, 45, 46, 47, 48, 49, 50, 51, 52, 53, 54, 55, 56, 57, 58, 59, 60, 61, 62, 63, 64, 65, 66, 67, 68, 69, 70, 71, 72, 73, 74, 75, 76, 77, 78, 79, 80, 81, 82, 83, 84, 85, 86, 87, 88, 89, 90, 91, 92, 93, 94, 95, 96, 97, 98, 99, 100, 101, 102, 103, 104, 105, 106, 107, 108, 109, 110, 111, 112, 113, 114, 115, 116, 117, 118, 119, 120, 121, 122, 123, 124, 125, 126, 127, 128, 129, 130, 131, 132, 133, 134, 135, 136] (by decide +kernel) (by decide +kernel)
set_option maxRecDepth 20000 in
theorem gX6_less_X6_changeFamily : GoodIn wsX6_less (wsV RX6 172 RX6 yX6_changeFamily wsX6_changeFamily) := goodIn_app (goodIn_of _ (by decide +kernel)) ggX6_less_X6_changeFamily
theorem dX6_less_0 : decode cX6_less 0 = .ok (.iload_n 1, 1) := by decide +kernel
theorem dX6_less_1 : decode cX6_less 1 = .ok (.invokestatic 50, 3) := by decide +kernel
theorem dX6_less_4 : decode cX6_less 4 = .ok (.ifCond .ne 10, 3) := by decide +kernel
theorem dX6_less_7 : decode cX6_less 7 = .ok (.aload_n 0, 1) := by decide +kernel
theorem dX6_less_8 : decode cX6_less 8 = .ok (.bipush (-2), 2) := by decide +kernel
theorem dX6_less_10 : decode cX6_less 10 = .ok (.invokevirtual 61, 3) := by decide +kernel
theorem dX6_less_13 : decode cX6_less 13 = .ok (.ireturn, 1) := by decide +kernel
theorem dX6_less_14 : decode cX6_less 14 = .ok (.aload_n 0, 1) := by decide +kernel
theorem dX6_less_15 : decode cX6_less 15 = .ok (.getfield 10, 3) := by decide +kernel
theorem dX6_less_18 : decode cX6_less 18 = .ok (.getfield 65, 3) := by decide +kernel
theorem dX6_less_21 : decode cX6_less 21 = .ok (.getfield 93, 3) := by decide +kernel
theorem dX6_less_24 : decode cX6_less 24 = .ok (.iload_n 1, 1) := by decide +kernel
theorem dX6_less_25 : decode cX6_less 25 = .ok (.iaload, 1) := by decide +kernel
theorem dX6_less_26 : decode cX6_less 26 = .ok (.ifCond .gt 10, 3) := by decide +kernel
theorem dX6_less_29 : decode cX6_less 29 = .ok (.aload_n 0, 1) := by decide +kernel
theorem dX6_less_30 : decode cX6_less 30 = .ok (.bipush (-3), 2) := by decide +kernel
theorem dX6_less_32 : decode cX6_less 32 = .ok (.invokevirtual 61, 3) := by decide +kernel
theorem dX6_less_35 : decode cX6_less 35 = .ok (.ireturn, 1) := by decide +kernel
theorem dX6_less_36 : decode cX6_less 36 = .ok (.aload_n 0, 1) := by decide +kernel
theorem dX6_less_37 : decode cX6_less 37 = .ok (.iload_n 1, 1) := by decide +kernel
theorem dX6_less_38 : decode cX6_less 38 = .ok (.iconst (-1), 1) := by decide +kernel
theorem dX6_less_39 : decode cX6_less 39 = .ok (.invokevirtual 172, 3) := by decide +kernel
theorem dX6_less_42 : decode cX6_less 42 = .ok (.ireturn, 1) := by decide +kernel
set_option maxRecDepth 20000 in
theorem ggX6_next_X1_choice : GoodIn wsX6_next wsX1_choice := goodIn_r _ [7, 8, 9, 10, 11, 12, 13, 14, 15, 16, 17, 18, 19, 20, 21, 22, 6, 23, 24, 25, 26, 27, 28, 29, 30, 31, 32, 33, 34, 35, 36, 37, 38, 39, 40, 41, 42, 43, 44, 45, 46, 47, 48, 49, 50, 51, 52, 53, 54, 55, 56, 57, 58, 59, 60, 61, 62, 63, 64, 65, 66, 67, 68, 69, 70, 71, 72, 73, 74, 75, 76, 77, 78, 79, 80, 81, 82, 83, 84, 85, 86, 87, 88, 89, 90, 91, 92, 93, 94, 95, 103, 104, 105, 106, 107, 108, 109, 110, 111, 112, 113, 114, 115, 116, 117, 118, 119, 120, 121, 122, 123, 124, 125, 126, 127, 128] (by decide +kernel) (by decide +kernel)
set_option maxRecDepth 20000 in
theorem gX6_next_X1_choice : GoodIn wsX6_next (wsV RX6 176 RX1 yX1_choice wsX1_choice) := goodIn_app (goodIn_of _ (by decide +kernel)) ggX6_next_X1_choice
theorem dX6_next_0 : decode cX6_next 0 = .ok (.aload_n 0, 1) := by decide +kernel
theorem dX6_next_1 : decode cX6_next 1 = .ok (.getfield 10, 3) := by decide +kernel
theorem dX6_next_4 : decode cX6_next 4 = .ok (.aload_n 0, 1) := by decide +kernel
theorem dX6_next_5 : decode cX6_next 5 = .ok (.getfield 30, 3) := by decide +kernel
theorem dX6_next_8 : decode cX6_next 8 = .ok (.bipush 7, 2) := by decide +kernel
theorem dX6_next_10 : decode cX6_next 10 = .ok (.iaload, 1) := by decide +kernel
theorem dX6_next_11 : decode cX6_next 11 = .ok (.invokevirtual 176, 3) := by decide +kernel
theorem dX6_next_14 : decode cX6_next 14 = .ok (.ireturn, 1) := by decide +kernel
set_option maxRecDepth 20000 in
theorem ggX6_steps_X6_isIn : GoodIn wsX6_steps wsX6_isIn := goodIn_r _ [8] (by decide +kernel) (by decide +kernel)
set_option maxRecDepth 20000 in
theorem gX6_steps_X6_isIn : GoodIn wsX6_steps (va_wsS RX6 54 yX6_isIn wsX6_isIn) := goodIn_app (goodIn_of _ (by decide +kernel)) ggX6_steps_X6_isIn
set_option maxRecDepth 20000 in
theorem ggX6_steps_X6_refuse : GoodIn wsX6_steps wsX6_refuse := goodIn_r _ [12, 13, 14, 15, 169, 170, 171, 172, 173, 174, 175] (by decide +kernel) (by decide +kernel)
set_option maxRecDepth 20000 in
theorem gX6_steps_X6_refuse : GoodIn wsX6_steps (wsV RX6 61 RX6 yX6_refuse wsX6_refuse) := goodIn_app (goodIn_of _ (by decide +kernel)) ggX6_steps_X6_refuse
set_option maxRecDepth 20000 in
theorem ggX6_steps_X2_note : GoodIn wsX6_steps wsX2_note := goodIn_r _ [20, 21, 22, 23, 24, 25, 19, 26, 27, 28, 29, 30, 31, 32, 33, 34, 35, 36, 37, 185, 186, 187, 188, 189, 190, 191, 192] (by decide +kernel) (by decide +kernel)
set_option maxRecDepth 20000 in
theorem gX6_steps_X2_note : GoodIn wsX6_steps (wsV RX6 69 RX2 yX2_note wsX2_note) := goodIn_app (goodIn_of _ (by decide +kernel)) ggX6_steps_X2_note
set_option maxRecDepth 20000 in
theorem ggX6_steps_X1_stepOn : GoodIn wsX6_steps wsX1_stepOn := goodIn_r _ [42, 43, 44, 45, 41, 46, 47, 48, 49, 50, 51, 52, 53, 54, 55, 56, 57, 58, 59, 60, 61, 62, 63, 64, 65, 66, 67, 68, 69, 70, 71, 72, 73, 74, 75, 76, 77, 78, 79, 80, 81, 82, 83, 84, 85, 86, 87, 88, 89, 31, 90, 35, 33, 91, 92, 93, 94, 95, 96, 97, 98, 99, 100, 101, 102, 103, 104, 105, 106, 107, 108, 109, 110, 111, 112, 113, 114, 115, 116, 117, 118, 119, 120, 121, 122, 123, 124, 125, 126, 34, 127, 128, 129, 130, 131, 132, 133, 134, 135, 136, 137, 138, 139, 140, 141, 142, 143, 144, 145, 146, 147, 148, 149, 150, 151, 152, 153, 154, 155, 156, 157, 158, 159, 160, 161, 162, 163, 164, 176, 177, 178, 179, 180, 181, 182, 183, 184, 193, 194, 195, 196, 197, 198, 199, 200, 188, 189, 190, 191, 192, 201, 202, 203, 204] (by decide +kernel) (by decide +kernel)
set_option maxRecDepth 20000 in
theorem gX6_steps_X1_stepOn : GoodIn wsX6_steps (wsV RX6 179 RX1 yX1_stepOn wsX1_stepOn) := goodIn_app (goodIn_of _ (by decide +kernel)) ggX6_steps_X1_stepOn
set_option maxRecDepth 20000 in
theorem ggX6_steps_X2_keep : GoodIn wsX6_steps wsX2_keep := goodIn_r _ [168, 21, 27, 185, 186, 187] (by decide +kernel) (by decide +kernel)
set_option maxRecDepth 20000 in
theorem gX6_steps_X2_keep : GoodIn wsX6_steps (wsV RX6 85 RX2 yX2_keep wsX2_keep) := goodIn_app (goodIn_of _ (by decide +kernel)) ggX6_steps_X2_keep
theorem dX6_steps_0 : decode cX6_steps 0 = .ok (.iload_n 1, 1) := by decide +kernel
theorem dX6_steps_1 : decode cX6_steps 1 = .ok (.iconst 1, 1) := by decide +kernel
theorem dX6_steps_2 : decode cX6_steps 2 = .ok (.bipush 60, 2) := by decide +kernel
theorem dX6_steps_4 : decode cX6_steps 4 = .ok (.invokestatic 54, 3) := by decide +kernel
theorem dX6_steps_7 : decode cX6_steps 7 = .ok (.ifCond .ne 10, 3) := by decide +kernel
theorem dX6_steps_10 : decode cX6_steps 10 = .ok (.aload_n 0, 1) := by decide +kernel
theorem dX6_steps_11 : decode cX6_steps 11 = .ok (.bipush (-2), 2) := by decide +kernel
theorem dX6_steps_13 : decode cX6_steps 13 = .ok (.invokevirtual 61, 3) := by decide +kernel
theorem dX6_steps_16 : decode cX6_steps 16 = .ok (.ireturn, 1) := by decide +kernel
theorem dX6_steps_17 : decode cX6_steps 17 = .ok (.aload_n 0, 1) := by decide +kernel
theorem dX6_steps_18 : decode cX6_steps 18 = .ok (.getfield 19, 3) := by decide +kernel
theorem dX6_steps_21 : decode cX6_steps 21 = .ok (.aload_n 0, 1) := by decide +kernel
theorem dX6_steps_22 : decode cX6_steps 22 = .ok (.getfield 10, 3) := by decide +kernel
theorem dX6_steps_25 : decode cX6_steps 25 = .ok (.getfield 65, 3) := by decide +kernel
theorem dX6_steps_28 : decode cX6_steps 28 = .ok (.invokevirtual 69, 3) := by decide +kernel
theorem dX6_steps_31 : decode cX6_steps 31 = .ok (.aload_n 0, 1) := by decide +kernel
theorem dX6_steps_32 : decode cX6_steps 32 = .ok (.getfield 10, 3) := by decide +kernel
theorem dX6_steps_35 : decode cX6_steps 35 = .ok (.aload_n 0, 1) := by decide +kernel
theorem dX6_steps_36 : decode cX6_steps 36 = .ok (.getfield 30, 3) := by decide +kernel
theorem dX6_steps_39 : decode cX6_steps 39 = .ok (.bipush 7, 2) := by decide +kernel
theorem dX6_steps_41 : decode cX6_steps 41 = .ok (.iaload, 1) := by decide +kernel
theorem dX6_steps_42 : decode cX6_steps 42 = .ok (.iload_n 1, 1) := by decide +kernel
theorem dX6_steps_43 : decode cX6_steps 43 = .ok (.invokevirtual 179, 3) := by decide +kernel
theorem dX6_steps_46 : decode cX6_steps 46 = .ok (.istore_n 2, 1) := by decide +kernel
theorem dX6_steps_47 : decode cX6_steps 47 = .ok (.iload_n 2, 1) := by decide +kernel
theorem dX6_steps_48 : decode cX6_steps 48 = .ok (.ifCond .le 10, 3) := by decide +kernel
theorem dX6_steps_51 : decode cX6_steps 51 = .ok (.aload_n 0, 1) := by decide +kernel
theorem dX6_steps_52 : decode cX6_steps 52 = .ok (.getfield 19, 3) := by decide +kernel
theorem dX6_steps_55 : decode cX6_steps 55 = .ok (.invokevirtual 85, 3) := by decide +kernel
theorem dX6_steps_58 : decode cX6_steps 58 = .ok (.iload_n 2, 1) := by decide +kernel
theorem dX6_steps_59 : decode cX6_steps 59 = .ok (.ireturn, 1) := by decide +kernel
set_option maxRecDepth 20000 in
theorem ggX6_thins_X2_note : GoodIn wsX6_thins wsX2_note := goodIn_r _ [8, 9, 10, 11, 12, 13, 7, 14, 15, 16, 17, 18, 19, 20, 21, 22, 23, 24, 25, 119, 120, 121, 122, 123, 124, 125, 126] (by decide +kernel) (by decide +kernel)
set_option maxRecDepth 20000 in
theorem gX6_thins_X2_note : GoodIn wsX6_thins (wsV RX6 69 RX2 yX2_note wsX2_note) := goodIn_app (goodIn_of _ (by decide +kernel)) ggX6_thins_X2_note
set_option maxRecDepth 20000 in
theorem ggX6_thins_X1_thinOut : GoodIn wsX6_thins wsX1_thinOut := goodIn_r _ [30, 31, 32, 33, 34, 35, 36, 37, 38, 39, 40, 41, 42, 43, 44, 45, 46, 47, 48, 49, 50, 51, 52, 53, 54, 55, 56, 57, 58, 59, 60, 61, 62, 63, 29, 64, 65, 66, 67, 68, 69, 70, 71, 72, 73, 74, 75, 76, 77, 78, 79, 80, 81, 82, 83, 84, 85, 86, 87, 88, 89, 90, 91, 92, 93, 94, 95, 96, 97, 98, 110, 111, 112, 113, 114, 115, 116, 117, 118, 122, 123, 124, 125, 126, 127, 128, 129, 130, 131, 132, 133, 134, 135, 136, 137, 138] (by decide +kernel) (by decide +kernel)
set_option maxRecDepth 20000 in
theorem gX6_thins_X1_thinOut : GoodIn wsX6_thins (wsV RX6 182 RX1 yX1_thinOut wsX1_thinOut) := goodIn_app (goodIn_of _ (by decide +kernel)) ggX6_thins_X1_thinOut
set_option maxRecDepth 20000 in
theorem ggX6_thins_X2_keep : GoodIn wsX6_thins wsX2_keep := goodIn_r _ [102, 9, 15, 119, 120, 121] (by decide +kernel) (by decide +kernel)
set_option maxRecDepth 20000 in
theorem gX6_thins_X2_keep : GoodIn wsX6_thins (wsV RX6 85 RX2 yX2_keep wsX2_keep) := goodIn_app (goodIn_of _ (by decide +kernel)) ggX6_thins_X2_keep
theorem dX6_thins_0 : decode cX6_thins 0 = .ok (.aload_n 0, 1) := by decide +kernel
theorem dX6_thins_1 : decode cX6_thins 1 = .ok (.getfield 19, 3) := by decide +kernel
theorem dX6_thins_4 : decode cX6_thins 4 = .ok (.aload_n 0, 1) := by decide +kernel
theorem dX6_thins_5 : decode cX6_thins 5 = .ok (.getfield 10, 3) := by decide +kernel
theorem dX6_thins_8 : decode cX6_thins 8 = .ok (.getfield 65, 3) := by decide +kernel
theorem dX6_thins_11 : decode cX6_thins 11 = .ok (.invokevirtual 69, 3) := by decide +kernel
theorem dX6_thins_14 : decode cX6_thins 14 = .ok (.aload_n 0, 1) := by decide +kernel
theorem dX6_thins_15 : decode cX6_thins 15 = .ok (.getfield 10, 3) := by decide +kernel
theorem dX6_thins_18 : decode cX6_thins 18 = .ok (.invokevirtual 182, 3) := by decide +kernel
theorem dX6_thins_21 : decode cX6_thins 21 = .ok (.istore_n 1, 1) := by decide +kernel
theorem dX6_thins_22 : decode cX6_thins 22 = .ok (.iload_n 1, 1) := by decide +kernel
theorem dX6_thins_23 : decode cX6_thins 23 = .ok (.ifCond .le 10, 3) := by decide +kernel
theorem dX6_thins_26 : decode cX6_thins 26 = .ok (.aload_n 0, 1) := by decide +kernel
theorem dX6_thins_27 : decode cX6_thins 27 = .ok (.getfield 19, 3) := by decide +kernel
theorem dX6_thins_30 : decode cX6_thins 30 = .ok (.invokevirtual 85, 3) := by decide +kernel
theorem dX6_thins_33 : decode cX6_thins 33 = .ok (.iload_n 1, 1) := by decide +kernel
theorem dX6_thins_34 : decode cX6_thins 34 = .ok (.ireturn, 1) := by decide +kernel
set_option maxRecDepth 20000 in
theorem ggX6_best_X6_isIn : GoodIn wsX6_best wsX6_isIn := goodIn_r _ [8] (by decide +kernel) (by decide +kernel)
set_option maxRecDepth 20000 in
theorem gX6_best_X6_isIn : GoodIn wsX6_best (va_wsS RX6 54 yX6_isIn wsX6_isIn) := goodIn_app (goodIn_of _ (by decide +kernel)) ggX6_best_X6_isIn
set_option maxRecDepth 20000 in
theorem ggX6_best_X6_refuse : GoodIn wsX6_best wsX6_refuse := goodIn_r _ [12, 13, 14, 15, 221, 222, 223, 224, 225, 226, 227] (by decide +kernel) (by decide +kernel)
set_option maxRecDepth 20000 in
theorem gX6_best_X6_refuse : GoodIn wsX6_best (wsV RX6 61 RX6 yX6_refuse wsX6_refuse) := goodIn_app (goodIn_of _ (by decide +kernel)) ggX6_best_X6_refuse
set_option maxRecDepth 20000 in
theorem ggX6_best_X1_markFill : GoodIn wsX6_best wsX1_markFill := goodIn_r _ [20, 21, 22, 23, 24, 25, 26, 27, 228, 229, 230, 231, 232, 233, 234, 235, 236, 237, 238, 239, 240, 241] (by decide +kernel) (by decide +kernel)
set_option maxRecDepth 20000 in
theorem gX6_best_X1_markFill : GoodIn wsX6_best (wsV RX6 185 RX1 yX1_markFill wsX1_markFill) := goodIn_app (goodIn_of _ (by decide +kernel)) ggX6_best_X1_markFill
set_option maxRecDepth 20000 in
theorem ggX6_best_X1_stepOn : GoodIn wsX6_best wsX1_stepOn := goodIn_r _ [31, 32, 33, 34, 19, 35, 36, 37, 38, 39, 40, 41, 42, 43, 44, 45, 46, 47, 48, 49, 50, 51, 52, 53, 54, 55, 56, 21, 57, 58, 59, 60, 61, 62, 63, 64, 65, 66, 67, 68, 69, 70, 71, 72, 22, 73, 74, 75, 76, 77, 78, 79, 80, 81, 82, 83, 84, 85, 86, 87, 88, 89, 90, 91, 92, 93, 94, 95, 96, 97, 98, 99, 100, 101, 102, 103, 104, 105, 106, 107, 108, 109, 110, 111, 112, 113, 114, 115, 116, 117, 118, 119, 120, 121, 122, 123, 124, 125, 126, 127, 128, 129, 130, 131, 132, 133, 134, 135, 136, 137, 138, 139, 140, 141, 142, 143, 144, 145, 146, 147, 148, 149, 150, 151, 152, 153, 154, 155, 228, 229, 230, 231, 232, 233, 234, 235, 236, 242, 243, 244, 245, 246, 247, 248, 249, 237, 238, 239, 240, 241, 250, 251, 252, 253] (by decide +kernel) (by decide +kernel)
set_option maxRecDepth 20000 in
theorem gX6_best_X1_stepOn : GoodIn wsX6_best (wsV RX6 179 RX1 yX1_stepOn wsX1_stepOn) := goodIn_app (goodIn_of _ (by decide +kernel)) ggX6_best_X1_stepOn
set_option maxRecDepth 20000 in
theorem ggX6_best_X1_thinOut : GoodIn wsX6_best wsX1_thinOut := goodIn_r _ [159, 21, 22, 36, 57, 160, 131, 132, 133, 161, 7, 162, 163, 164, 165, 40, 166, 42, 47, 130, 167, 168, 169, 170, 85, 171, 64, 65, 66, 67, 68, 122, 123, 124, 19, 125, 73, 126, 127, 128, 129, 134, 135, 136, 137, 138, 139, 140, 141, 142, 143, 44, 45, 46, 144, 145, 146, 147, 86, 148, 149, 150, 151, 152, 153, 154, 90, 155, 98, 92, 228, 229, 230, 231, 232, 233, 234, 235, 236, 237, 238, 239, 240, 241, 242, 243, 244, 245, 246, 247, 248, 249, 250, 251, 252, 253] (by decide +kernel) (by decide +kernel)
set_option maxRecDepth 20000 in
theorem gX6_best_X1_thinOut : GoodIn wsX6_best (wsV RX6 182 RX1 yX1_thinOut wsX1_thinOut) := goodIn_app (goodIn_of _ (by decide +kernel)) ggX6_best_X1_thinOut
set_option maxRecDepth 20000 in
theorem ggX6_best_X1_rate : GoodIn wsX6_best wsX1_rate := goodIn_r _ [175, 36, 21, 22, 176, 177, 178, 179, 180, 181, 40, 182, 143, 44, 45, 46, 42, 47, 161, 7, 162, 228, 229, 230, 231, 232, 233, 234, 235, 236, 237, 238, 239, 240, 241, 242, 243, 244, 245, 246, 247, 248, 249] (by decide +kernel) (by decide +kernel)
set_option maxRecDepth 20000 in
theorem gX6_best_X1_rate : GoodIn wsX6_best (wsV RX6 188 RX1 yX1_rate wsX1_rate) := goodIn_app (goodIn_of _ (by decide +kernel)) ggX6_best_X1_rate
set_option maxRecDepth 20000 in
theorem ggX6_best_X1_layBack : GoodIn wsX6_best wsX1_layBack := goodIn_r _ [186, 23, 21, 22, 24, 25, 26, 27, 187, 188, 189, 19, 190, 36, 73, 191, 192, 193, 40, 194, 141, 142, 85, 42, 195, 196, 197, 198, 199, 200, 201, 202, 67, 68, 203, 204, 205, 206, 207, 208, 114, 115, 77, 116, 80, 117, 143, 44, 45, 46, 47, 148, 149, 150, 151, 144, 145, 146, 147, 86, 209, 210, 211, 90, 212, 92, 99, 213, 98, 214, 215, 216, 217, 218, 219, 220, 153, 154, 155, 228, 229, 230, 231, 232, 233, 234, 235, 236, 237, 238, 239, 240, 241, 242, 243, 244, 245, 246, 247, 248, 249, 250, 251, 252, 253] (by decide +kernel) (by decide +kernel)
set_option maxRecDepth 20000 in
theorem gX6_best_X1_layBack : GoodIn wsX6_best (wsV RX6 192 RX1 yX1_layBack wsX1_layBack) := goodIn_app (goodIn_of _ (by decide +kernel)) ggX6_best_X1_layBack
theorem dX6_best_0 : decode cX6_best 0 = .ok (.iload_n 1, 1) := by decide +kernel
theorem dX6_best_1 : decode cX6_best 1 = .ok (.iconst 0, 1) := by decide +kernel
theorem dX6_best_2 : decode cX6_best 2 = .ok (.iconst 2, 1) := by decide +kernel
theorem dX6_best_3 : decode cX6_best 3 = .ok (.invokestatic 54, 3) := by decide +kernel
theorem dX6_best_6 : decode cX6_best 6 = .ok (.ifCond .ne 10, 3) := by decide +kernel
theorem dX6_best_9 : decode cX6_best 9 = .ok (.aload_n 0, 1) := by decide +kernel
theorem dX6_best_10 : decode cX6_best 10 = .ok (.bipush (-2), 2) := by decide +kernel
theorem dX6_best_12 : decode cX6_best 12 = .ok (.invokevirtual 61, 3) := by decide +kernel
theorem dX6_best_15 : decode cX6_best 15 = .ok (.ireturn, 1) := by decide +kernel
theorem dX6_best_16 : decode cX6_best 16 = .ok (.aload_n 0, 1) := by decide +kernel
theorem dX6_best_17 : decode cX6_best 17 = .ok (.getfield 10, 3) := by decide +kernel
theorem dX6_best_20 : decode cX6_best 20 = .ok (.invokevirtual 185, 3) := by decide +kernel
theorem dX6_best_23 : decode cX6_best 23 = .ok (.iconst 0, 1) := by decide +kernel
theorem dX6_best_24 : decode cX6_best 24 = .ok (.istore_n 2, 1) := by decide +kernel
theorem dX6_best_25 : decode cX6_best 25 = .ok (.iload_n 2, 1) := by decide +kernel
theorem dX6_best_26 : decode cX6_best 26 = .ok (.iconst 5, 1) := by decide +kernel
theorem dX6_best_27 : decode cX6_best 27 = .ok (.if_icmp .ge 43, 3) := by decide +kernel
theorem dX6_best_30 : decode cX6_best 30 = .ok (.aload_n 0, 1) := by decide +kernel
theorem dX6_best_31 : decode cX6_best 31 = .ok (.getfield 10, 3) := by decide +kernel
theorem dX6_best_34 : decode cX6_best 34 = .ok (.iload_n 2, 1) := by decide +kernel
theorem dX6_best_35 : decode cX6_best 35 = .ok (.bipush 40, 2) := by decide +kernel
theorem dX6_best_37 : decode cX6_best 37 = .ok (.invokevirtual 179, 3) := by decide +kernel
theorem dX6_best_40 : decode cX6_best 40 = .ok (.pop, 1) := by decide +kernel
theorem dX6_best_41 : decode cX6_best 41 = .ok (.aload_n 0, 1) := by decide +kernel
theorem dX6_best_42 : decode cX6_best 42 = .ok (.getfield 10, 3) := by decide +kernel
theorem dX6_best_45 : decode cX6_best 45 = .ok (.invokevirtual 182, 3) := by decide +kernel
theorem dX6_best_48 : decode cX6_best 48 = .ok (.pop, 1) := by decide +kernel
theorem dX6_best_49 : decode cX6_best 49 = .ok (.aload_n 0, 1) := by decide +kernel
theorem dX6_best_50 : decode cX6_best 50 = .ok (.getfield 10, 3) := by decide +kernel
theorem dX6_best_53 : decode cX6_best 53 = .ok (.iload_n 2, 1) := by decide +kernel
theorem dX6_best_54 : decode cX6_best 54 = .ok (.invokevirtual 188, 3) := by decide +kernel
theorem dX6_best_57 : decode cX6_best 57 = .ok (.aload_n 0, 1) := by decide +kernel
theorem dX6_best_58 : decode cX6_best 58 = .ok (.getfield 10, 3) := by decide +kernel
theorem dX6_best_61 : decode cX6_best 61 = .ok (.invokevirtual 192, 3) := by decide +kernel
theorem dX6_best_64 : decode cX6_best 64 = .ok (.iinc 2 1, 3) := by decide +kernel
theorem dX6_best_67 : decode cX6_best 67 = .ok (.goto (-42), 3) := by decide +kernel
theorem dX6_best_70 : decode cX6_best 70 = .ok (.iload_n 1, 1) := by decide +kernel
theorem dX6_best_71 : decode cX6_best 71 = .ok (.lookupswitch 41 #[(0, 25), (1, 33)], 25) := by decide +kernel
theorem dX6_best_96 : decode cX6_best 96 = .ok (.aload_n 0, 1) := by decide +kernel
theorem dX6_best_97 : decode cX6_best 97 = .ok (.getfield 10, 3) := by decide +kernel
theorem dX6_best_100 : decode cX6_best 100 = .ok (.getfield 195, 3) := by decide +kernel
theorem dX6_best_103 : decode cX6_best 103 = .ok (.ireturn, 1) := by decide +kernel
theorem dX6_best_104 : decode cX6_best 104 = .ok (.aload_n 0, 1) := by decide +kernel
theorem dX6_best_105 : decode cX6_best 105 = .ok (.getfield 10, 3) := by decide +kernel
theorem dX6_best_108 : decode cX6_best 108 = .ok (.getfield 198, 3) := by decide +kernel
theorem dX6_best_111 : decode cX6_best 111 = .ok (.ireturn, 1) := by decide +kernel
theorem dX6_best_112 : decode cX6_best 112 = .ok (.aload_n 0, 1) := by decide +kernel
theorem dX6_best_113 : decode cX6_best 113 = .ok (.getfield 10, 3) := by decide +kernel
theorem dX6_best_116 : decode cX6_best 116 = .ok (.getfield 201, 3) := by decide +kernel
theorem dX6_best_119 : decode cX6_best 119 = .ok (.ireturn, 1) := by decide +kernel
set_option maxRecDepth 20000 in
theorem ggX6_row_X6_isIn : GoodIn wsX6_row wsX6_isIn := goodIn_r _ [5] (by decide +kernel) (by decide +kernel)
set_option maxRecDepth 20000 in
theorem gX6_row_X6_isIn : GoodIn wsX6_row (va_wsS RX6 54 yX6_isIn wsX6_isIn) := goodIn_app (goodIn_of _ (by decide +kernel)) ggX6_row_X6_isIn
set_option maxRecDepth 20000 in
theorem ggX6_row_X6_refuse : GoodIn wsX6_row wsX6_refuse := goodIn_r _ [9, 10, 11, 12, 36, 37, 38, 39, 40, 41, 42] (by decide +kernel) (by decide +kernel)
set_option maxRecDepth 20000 in
theorem gX6_row_X6_refuse : GoodIn wsX6_row (wsV RX6 61 RX6 yX6_refuse wsX6_refuse) := goodIn_app (goodIn_of _ (by decide +kernel)) ggX6_row_X6_refuse
set_option maxRecDepth 20000 in
theorem ggX6_row_X1_leastInRow : GoodIn wsX6_row wsX1_leastInRow := goodIn_r _ [17, 18, 19, 20, 21, 22, 23, 24, 25, 26, 27, 28, 29, 30, 31, 32, 33, 34, 16, 35, 43, 44, 45, 46, 47, 48, 49, 50, 51, 52, 53, 54, 55, 56, 57, 58, 59, 60, 61, 62, 63, 64] (by decide +kernel) (by decide +kernel)
set_option maxRecDepth 20000 in
theorem gX6_row_X1_leastInRow : GoodIn wsX6_row (wsV RX6 204 RX1 yX1_leastInRow wsX1_leastInRow) := goodIn_app (goodIn_of _ (by decide +kernel)) ggX6_row_X1_leastInRow
theorem dX6_row_0 : decode cX6_row 0 = .ok (.iload_n 1, 1) := by decide +kernel
theorem dX6_row_1 : decode cX6_row 1 = .ok (.iconst 0, 1) := by decide +kernel
theorem dX6_row_2 : decode cX6_row 2 = .ok (.bipush 7, 2) := by decide +kernel
theorem dX6_row_4 : decode cX6_row 4 = .ok (.invokestatic 54, 3) := by decide +kernel
theorem dX6_row_7 : decode cX6_row 7 = .ok (.ifCond .eq 13, 3) := by decide +kernel
theorem dX6_row_10 : decode cX6_row 10 = .ok (.iload_n 2, 1) := by decide +kernel
theorem dX6_row_11 : decode cX6_row 11 = .ok (.iconst 0, 1) := by decide +kernel
theorem dX6_row_12 : decode cX6_row 12 = .ok (.bipush 90, 2) := by decide +kernel
theorem dX6_row_14 : decode cX6_row 14 = .ok (.invokestatic 54, 3) := by decide +kernel
theorem dX6_row_17 : decode cX6_row 17 = .ok (.ifCond .ne 10, 3) := by decide +kernel
theorem dX6_row_20 : decode cX6_row 20 = .ok (.aload_n 0, 1) := by decide +kernel
theorem dX6_row_21 : decode cX6_row 21 = .ok (.bipush (-2), 2) := by decide +kernel
theorem dX6_row_23 : decode cX6_row 23 = .ok (.invokevirtual 61, 3) := by decide +kernel
theorem dX6_row_26 : decode cX6_row 26 = .ok (.ireturn, 1) := by decide +kernel
theorem dX6_row_27 : decode cX6_row 27 = .ok (.aload_n 0, 1) := by decide +kernel
theorem dX6_row_28 : decode cX6_row 28 = .ok (.getfield 10, 3) := by decide +kernel
theorem dX6_row_31 : decode cX6_row 31 = .ok (.iload_n 1, 1) := by decide +kernel
theorem dX6_row_32 : decode cX6_row 32 = .ok (.iload_n 2, 1) := by decide +kernel
theorem dX6_row_33 : decode cX6_row 33 = .ok (.invokevirtual 204, 3) := by decide +kernel
theorem dX6_row_36 : decode cX6_row 36 = .ok (.ireturn, 1) := by decide +kernel
set_option maxRecDepth 20000 in
theorem ggX6_undo_X6_refuse : GoodIn wsX6_undo wsX6_refuse := goodIn_r _ [9, 10, 11, 12, 104, 105, 106, 107, 108, 109, 110] (by decide +kernel) (by decide +kernel)
set_option maxRecDepth 20000 in
theorem gX6_undo_X6_refuse : GoodIn wsX6_undo (wsV RX6 61 RX6 yX6_refuse wsX6_refuse) := goodIn_app (goodIn_of _ (by decide +kernel)) ggX6_undo_X6_refuse
set_option maxRecDepth 20000 in
theorem ggX6_undo_X2_takeBack : GoodIn wsX6_undo wsX2_takeBack := goodIn_r _ [17, 18, 19, 20, 21, 22, 16, 23, 24, 25, 26, 27, 28, 29, 30, 31, 32, 33, 34, 111, 112, 113, 123, 124, 125, 126, 127] (by decide +kernel) (by decide +kernel)
set_option maxRecDepth 20000 in
theorem gX6_undo_X2_takeBack : GoodIn wsX6_undo (wsV RX6 210 RX2 yX2_takeBack wsX2_takeBack) := goodIn_app (goodIn_of _ (by decide +kernel)) ggX6_undo_X2_takeBack
set_option maxRecDepth 20000 in
theorem ggX6_undo_X1_measure : GoodIn wsX6_undo wsX1_measure := goodIn_r _ [39, 40, 41, 42, 43, 44, 45, 46, 47, 48, 49, 50, 51, 52, 53, 54, 55, 56, 57, 58, 59, 60, 61, 62, 63, 64, 65, 66, 67, 68, 69, 28, 70, 30, 31, 71, 72, 73, 74, 75, 76, 77, 78, 79, 80, 81, 82, 83, 84, 85, 86, 87, 88, 89, 90, 91, 92, 93, 94, 95, 96, 97, 98, 99, 100, 101, 102, 103, 114, 115, 116, 117, 118, 119, 120, 121, 122, 128, 129, 130, 131, 132, 133, 134, 135, 123, 124, 125, 126, 127, 136, 137, 138, 139] (by decide +kernel) (by decide +kernel)
set_option maxRecDepth 20000 in
theorem gX6_undo_X1_measure : GoodIn wsX6_undo (wsV RX6 82 RX1 yX1_measure wsX1_measure) := goodIn_app (goodIn_of _ (by decide +kernel)) ggX6_undo_X1_measure
theorem dX6_undo_0 : decode cX6_undo 0 = .ok (.aload_n 0, 1) := by decide +kernel
theorem dX6_undo_1 : decode cX6_undo 1 = .ok (.getfield 19, 3) := by decide +kernel
theorem dX6_undo_4 : decode cX6_undo 4 = .ok (.getfield 207, 3) := by decide +kernel
theorem dX6_undo_7 : decode cX6_undo 7 = .ok (.ifCond .ne 10, 3) := by decide +kernel
theorem dX6_undo_10 : decode cX6_undo 10 = .ok (.aload_n 0, 1) := by decide +kernel
theorem dX6_undo_11 : decode cX6_undo 11 = .ok (.bipush (-3), 2) := by decide +kernel
theorem dX6_undo_13 : decode cX6_undo 13 = .ok (.invokevirtual 61, 3) := by decide +kernel
theorem dX6_undo_16 : decode cX6_undo 16 = .ok (.ireturn, 1) := by decide +kernel
theorem dX6_undo_17 : decode cX6_undo 17 = .ok (.aload_n 0, 1) := by decide +kernel
theorem dX6_undo_18 : decode cX6_undo 18 = .ok (.getfield 19, 3) := by decide +kernel
theorem dX6_undo_21 : decode cX6_undo 21 = .ok (.aload_n 0, 1) := by decide +kernel
theorem dX6_undo_22 : decode cX6_undo 22 = .ok (.getfield 10, 3) := by decide +kernel
theorem dX6_undo_25 : decode cX6_undo 25 = .ok (.getfield 65, 3) := by decide +kernel
theorem dX6_undo_28 : decode cX6_undo 28 = .ok (.invokevirtual 210, 3) := by decide +kernel
theorem dX6_undo_31 : decode cX6_undo 31 = .ok (.aload_n 0, 1) := by decide +kernel
theorem dX6_undo_32 : decode cX6_undo 32 = .ok (.getfield 10, 3) := by decide +kernel
theorem dX6_undo_35 : decode cX6_undo 35 = .ok (.invokevirtual 82, 3) := by decide +kernel
theorem dX6_undo_38 : decode cX6_undo 38 = .ok (.aload_n 0, 1) := by decide +kernel
theorem dX6_undo_39 : decode cX6_undo 39 = .ok (.getfield 19, 3) := by decide +kernel
theorem dX6_undo_42 : decode cX6_undo 42 = .ok (.getfield 207, 3) := by decide +kernel
theorem dX6_undo_45 : decode cX6_undo 45 = .ok (.ireturn, 1) := by decide +kernel
set_option maxRecDepth 20000 in
theorem ggX6_type_X6_isIn : GoodIn wsX6_type wsX6_isIn := goodIn_r _ [6] (by decide +kernel) (by decide +kernel)
set_option maxRecDepth 20000 in
theorem gX6_type_X6_isIn : GoodIn wsX6_type (va_wsS RX6 54 yX6_isIn wsX6_isIn) := goodIn_app (goodIn_of _ (by decide +kernel)) ggX6_type_X6_isIn
set_option maxRecDepth 20000 in
theorem ggX6_type_X6_refuse : GoodIn wsX6_type wsX6_refuse := goodIn_r _ [10, 11, 12, 13, 21, 22, 23, 24, 25, 26, 27] (by decide +kernel) (by decide +kernel)
set_option maxRecDepth 20000 in
theorem gX6_type_X6_refuse : GoodIn wsX6_type (wsV RX6 61 RX6 yX6_refuse wsX6_refuse) := goodIn_app (goodIn_of _ (by decide +kernel)) ggX6_type_X6_refuse
set_option maxRecDepth 20000 in
theorem ggX6_type_X4_append : GoodIn wsX6_type wsX4_append := goodIn_r _ [18, 19, 20, 28, 29] (by decide +kernel) (by decide +kernel)
set_option maxRecDepth 20000 in
theorem gX6_type_X4_append : GoodIn wsX6_type (wsV RX6 216 RX4 yX4_append wsX4_append) := goodIn_app (goodIn_of _ (by decide +kernel)) ggX6_type_X4_append
theorem dX6_type_0 : decode cX6_type 0 = .ok (.iload_n 1, 1) := by decide +kernel
theorem dX6_type_1 : decode cX6_type 1 = .ok (.iconst 0, 1) := by decide +kernel
theorem dX6_type_2 : decode cX6_type 2 = .ok (.bipush 127, 2) := by decide +kernel
theorem dX6_type_4 : decode cX6_type 4 = .ok (.invokestatic 54, 3) := by decide +kernel
theorem dX6_type_7 : decode cX6_type 7 = .ok (.ifCond .ne 10, 3) := by decide +kernel
theorem dX6_type_10 : decode cX6_type 10 = .ok (.aload_n 0, 1) := by decide +kernel
theorem dX6_type_11 : decode cX6_type 11 = .ok (.bipush (-2), 2) := by decide +kernel
theorem dX6_type_13 : decode cX6_type 13 = .ok (.invokevirtual 61, 3) := by decide +kernel
theorem dX6_type_16 : decode cX6_type 16 = .ok (.ireturn, 1) := by decide +kernel
theorem dX6_type_17 : decode cX6_type 17 = .ok (.aload_n 0, 1) := by decide +kernel
theorem dX6_type_18 : decode cX6_type 18 = .ok (.getfield 26, 3) := by decide +kernel
theorem dX6_type_21 : decode cX6_type 21 = .ok (.getfield 213, 3) := by decide +kernel
theorem dX6_type_24 : decode cX6_type 24 = .ok (.bipush 120, 2) := by decide +kernel
theorem dX6_type_26 : decode cX6_type 26 = .ok (.if_icmp .lt 10, 3) := by decide +kernel
theorem dX6_type_29 : decode cX6_type 29 = .ok (.aload_n 0, 1) := by decide +kernel
theorem dX6_type_30 : decode cX6_type 30 = .ok (.bipush (-4), 2) := by decide +kernel
theorem dX6_type_32 : decode cX6_type 32 = .ok (.invokevirtual 61, 3) := by decide +kernel
theorem dX6_type_35 : decode cX6_type 35 = .ok (.ireturn, 1) := by decide +kernel
theorem dX6_type_36 : decode cX6_type 36 = .ok (.aload_n 0, 1) := by decide +kernel
theorem dX6_type_37 : decode cX6_type 37 = .ok (.getfield 26, 3) := by decide +kernel
theorem dX6_type_40 : decode cX6_type 40 = .ok (.iload_n 1, 1) := by decide +kernel
theorem dX6_type_41 : decode cX6_type 41 = .ok (.invokevirtual 216, 3) := by decide +kernel
theorem dX6_type_44 : decode cX6_type 44 = .ok (.aload_n 0, 1) := by decide +kernel
theorem dX6_type_45 : decode cX6_type 45 = .ok (.getfield 26, 3) := by decide +kernel
theorem dX6_type_48 : decode cX6_type 48 = .ok (.getfield 213, 3) := by decide +kernel
theorem dX6_type_51 : decode cX6_type 51 = .ok (.ireturn, 1) := by decide +kernel
theorem dX6_clear_0 : decode cX6_clear 0 = .ok (.aload_n 0, 1) := by decide +kernel
theorem dX6_clear_1 : decode cX6_clear 1 = .ok (.getfield 26, 3) := by decide +kernel
theorem dX6_clear_4 : decode cX6_clear 4 = .ok (.getfield 213, 3) := by decide +kernel
theorem dX6_clear_7 : decode cX6_clear 7 = .ok (.istore_n 1, 1) := by decide +kernel
theorem dX6_clear_8 : decode cX6_clear 8 = .ok (.aload_n 0, 1) := by decide +kernel
theorem dX6_clear_9 : decode cX6_clear 9 = .ok (.getfield 26, 3) := by decide +kernel
theorem dX6_clear_12 : decode cX6_clear 12 = .ok (.iconst 0, 1) := by decide +kernel
theorem dX6_clear_13 : decode cX6_clear 13 = .ok (.putfield 213, 3) := by decide +kernel
theorem dX6_clear_16 : decode cX6_clear 16 = .ok (.iload_n 1, 1) := by decide +kernel
theorem dX6_clear_17 : decode cX6_clear 17 = .ok (.ireturn, 1) := by decide +kernel
set_option maxRecDepth 20000 in
theorem ggX6_reads_X4_fault : GoodIn wsX6_reads wsX4_fault := goodIn_r _ [9, 10, 11, 12, 13, 8, 14, 157, 158] (by decide +kernel) (by decide +kernel)
set_option maxRecDepth 20000 in
theorem gX6_reads_X4_fault : GoodIn wsX6_reads (wsV RX6 219 RX4 yX4_fault wsX4_fault) := goodIn_app (goodIn_of _ (by decide +kernel)) ggX6_reads_X4_fault
set_option maxRecDepth 20000 in
theorem ggX6_reads_X2_note : GoodIn wsX6_reads wsX2_note := goodIn_r _ [19, 20, 21, 22, 23, 24, 18, 25, 26, 27, 28, 29, 30, 31, 32, 33, 34, 35, 36, 159, 160, 161, 162, 163, 164, 165, 166] (by decide +kernel) (by decide +kernel)
set_option maxRecDepth 20000 in
theorem gX6_reads_X2_note : GoodIn wsX6_reads (wsV RX6 69 RX2 yX2_note wsX2_note) := goodIn_app (goodIn_of _ (by decide +kernel)) ggX6_reads_X2_note
set_option maxRecDepth 20000 in
theorem ggX6_reads_X4_tell : GoodIn wsX6_reads wsX4_tell := goodIn_r _ [40, 10, 11, 41, 42, 8, 43, 44, 45, 46, 47, 48, 49, 50, 51, 157, 158, 162, 163, 164, 165, 166] (by decide +kernel) (by decide +kernel)
set_option maxRecDepth 20000 in
theorem gX6_reads_X4_tell : GoodIn wsX6_reads (wsV RX6 222 RX4 yX4_tell wsX4_tell) := goodIn_app (goodIn_of _ (by decide +kernel)) ggX6_reads_X4_tell
set_option maxRecDepth 20000 in
theorem ggX6_reads_X0_settle : GoodIn wsX6_reads wsX0_settle := goodIn_r _ [55, 33, 56, 57, 58, 59, 60, 61, 62, 30, 63, 34, 32, 64, 65, 66, 67, 36, 162, 163, 164, 165, 166] (by decide +kernel) (by decide +kernel)
set_option maxRecDepth 20000 in
theorem gX6_reads_X0_settle : GoodIn wsX6_reads (wsV RX6 79 RX0 yX0_settle wsX0_settle) := goodIn_app (goodIn_of _ (by decide +kernel)) ggX6_reads_X0_settle
set_option maxRecDepth 20000 in
theorem ggX6_reads_X1_measure : GoodIn wsX6_reads wsX1_measure := goodIn_r _ [72, 73, 74, 75, 76, 77, 78, 79, 80, 81, 82, 83, 84, 85, 86, 87, 88, 89, 90, 91, 92, 93, 94, 95, 96, 97, 98, 99, 100, 101, 102, 30, 103, 32, 33, 104, 105, 106, 107, 108, 109, 110, 111, 112, 113, 114, 115, 116, 117, 118, 119, 120, 121, 122, 123, 124, 125, 126, 127, 128, 129, 130, 131, 132, 133, 134, 135, 136, 148, 149, 150, 151, 152, 153, 154, 155, 156, 167, 168, 169, 170, 171, 172, 173, 174, 162, 163, 164, 165, 166, 175, 176, 177, 178] (by decide +kernel) (by decide +kernel)
set_option maxRecDepth 20000 in
theorem gX6_reads_X1_measure : GoodIn wsX6_reads (wsV RX6 82 RX1 yX1_measure wsX1_measure) := goodIn_app (goodIn_of _ (by decide +kernel)) ggX6_reads_X1_measure
set_option maxRecDepth 20000 in
theorem ggX6_reads_X2_keep : GoodIn wsX6_reads wsX2_keep := goodIn_r _ [140, 20, 26, 159, 160, 161] (by decide +kernel) (by decide +kernel)
set_option maxRecDepth 20000 in
theorem gX6_reads_X2_keep : GoodIn wsX6_reads (wsV RX6 85 RX2 yX2_keep wsX2_keep) := goodIn_app (goodIn_of _ (by decide +kernel)) ggX6_reads_X2_keep
theorem dX6_reads_0 : decode cX6_reads 0 = .ok (.aload_n 0, 1) := by decide +kernel
theorem dX6_reads_1 : decode cX6_reads 1 = .ok (.getfield 26, 3) := by decide +kernel
theorem dX6_reads_4 : decode cX6_reads 4 = .ok (.invokevirtual 219, 3) := by decide +kernel
theorem dX6_reads_7 : decode cX6_reads 7 = .ok (.istore_n 1, 1) := by decide +kernel
theorem dX6_reads_8 : decode cX6_reads 8 = .ok (.iload_n 1, 1) := by decide +kernel
theorem dX6_reads_9 : decode cX6_reads 9 = .ok (.iconst (-1), 1) := by decide +kernel
theorem dX6_reads_10 : decode cX6_reads 10 = .ok (.if_icmp .eq 8, 3) := by decide +kernel
theorem dX6_reads_13 : decode cX6_reads 13 = .ok (.bipush (-10), 2) := by decide +kernel
theorem dX6_reads_15 : decode cX6_reads 15 = .ok (.iload_n 1, 1) := by decide +kernel
theorem dX6_reads_16 : decode cX6_reads 16 = .ok (.isub, 1) := by decide +kernel
theorem dX6_reads_17 : decode cX6_reads 17 = .ok (.ireturn, 1) := by decide +kernel
theorem dX6_reads_18 : decode cX6_reads 18 = .ok (.aload_n 0, 1) := by decide +kernel
theorem dX6_reads_19 : decode cX6_reads 19 = .ok (.getfield 19, 3) := by decide +kernel
theorem dX6_reads_22 : decode cX6_reads 22 = .ok (.aload_n 0, 1) := by decide +kernel
theorem dX6_reads_23 : decode cX6_reads 23 = .ok (.getfield 10, 3) := by decide +kernel
theorem dX6_reads_26 : decode cX6_reads 26 = .ok (.getfield 65, 3) := by decide +kernel
theorem dX6_reads_29 : decode cX6_reads 29 = .ok (.invokevirtual 69, 3) := by decide +kernel
theorem dX6_reads_32 : decode cX6_reads 32 = .ok (.aload_n 0, 1) := by decide +kernel
theorem dX6_reads_33 : decode cX6_reads 33 = .ok (.getfield 26, 3) := by decide +kernel
theorem dX6_reads_36 : decode cX6_reads 36 = .ok (.aload_n 0, 1) := by decide +kernel
theorem dX6_reads_37 : decode cX6_reads 37 = .ok (.getfield 10, 3) := by decide +kernel
theorem dX6_reads_40 : decode cX6_reads 40 = .ok (.getfield 65, 3) := by decide +kernel
theorem dX6_reads_43 : decode cX6_reads 43 = .ok (.invokevirtual 222, 3) := by decide +kernel
theorem dX6_reads_46 : decode cX6_reads 46 = .ok (.istore_n 2, 1) := by decide +kernel
theorem dX6_reads_47 : decode cX6_reads 47 = .ok (.aload_n 0, 1) := by decide +kernel
theorem dX6_reads_48 : decode cX6_reads 48 = .ok (.getfield 10, 3) := by decide +kernel
theorem dX6_reads_51 : decode cX6_reads 51 = .ok (.getfield 65, 3) := by decide +kernel
theorem dX6_reads_54 : decode cX6_reads 54 = .ok (.invokevirtual 79, 3) := by decide +kernel
theorem dX6_reads_57 : decode cX6_reads 57 = .ok (.aload_n 0, 1) := by decide +kernel
theorem dX6_reads_58 : decode cX6_reads 58 = .ok (.getfield 10, 3) := by decide +kernel
theorem dX6_reads_61 : decode cX6_reads 61 = .ok (.invokevirtual 82, 3) := by decide +kernel
theorem dX6_reads_64 : decode cX6_reads 64 = .ok (.aload_n 0, 1) := by decide +kernel
theorem dX6_reads_65 : decode cX6_reads 65 = .ok (.getfield 19, 3) := by decide +kernel
theorem dX6_reads_68 : decode cX6_reads 68 = .ok (.invokevirtual 85, 3) := by decide +kernel
theorem dX6_reads_71 : decode cX6_reads 71 = .ok (.iload_n 2, 1) := by decide +kernel
theorem dX6_reads_72 : decode cX6_reads 72 = .ok (.ireturn, 1) := by decide +kernel
set_option maxRecDepth 20000 in
theorem ggX6_told_X6_refuse : GoodIn wsX6_told wsX6_refuse := goodIn_r _ [13, 1, 2, 3, 14, 15, 16, 17, 18, 19, 20] (by decide +kernel) (by decide +kernel)
set_option maxRecDepth 20000 in
theorem gX6_told_X6_refuse : GoodIn wsX6_told (wsV RX6 61 RX6 yX6_refuse wsX6_refuse) := goodIn_app (goodIn_of _ (by decide +kernel)) ggX6_told_X6_refuse
theorem dX6_told_0 : decode cX6_told 0 = .ok (.iload_n 1, 1) := by decide +kernel
theorem dX6_told_1 : decode cX6_told 1 = .ok (.tableswitch 122 0 9 #[55, 60, 65, 70, 78, 85, 92, 99, 106, 114], 55) := by decide +kernel
theorem dX6_told_56 : decode cX6_told 56 = .ok (.aload_n 0, 1) := by decide +kernel
theorem dX6_told_57 : decode cX6_told 57 = .ok (.getfield 34, 3) := by decide +kernel
theorem dX6_told_60 : decode cX6_told 60 = .ok (.ireturn, 1) := by decide +kernel
theorem dX6_told_61 : decode cX6_told 61 = .ok (.aload_n 0, 1) := by decide +kernel
theorem dX6_told_62 : decode cX6_told 62 = .ok (.getfield 38, 3) := by decide +kernel
theorem dX6_told_65 : decode cX6_told 65 = .ok (.ireturn, 1) := by decide +kernel
theorem dX6_told_66 : decode cX6_told 66 = .ok (.aload_n 0, 1) := by decide +kernel
theorem dX6_told_67 : decode cX6_told 67 = .ok (.getfield 41, 3) := by decide +kernel
theorem dX6_told_70 : decode cX6_told 70 = .ok (.ireturn, 1) := by decide +kernel
theorem dX6_told_71 : decode cX6_told 71 = .ok (.aload_n 0, 1) := by decide +kernel
theorem dX6_told_72 : decode cX6_told 72 = .ok (.getfield 26, 3) := by decide +kernel
theorem dX6_told_75 : decode cX6_told 75 = .ok (.getfield 213, 3) := by decide +kernel
theorem dX6_told_78 : decode cX6_told 78 = .ok (.ireturn, 1) := by decide +kernel
theorem dX6_told_79 : decode cX6_told 79 = .ok (.aload_n 0, 1) := by decide +kernel
theorem dX6_told_80 : decode cX6_told 80 = .ok (.getfield 30, 3) := by decide +kernel
theorem dX6_told_83 : decode cX6_told 83 = .ok (.iconst 0, 1) := by decide +kernel
theorem dX6_told_84 : decode cX6_told 84 = .ok (.iaload, 1) := by decide +kernel
theorem dX6_told_85 : decode cX6_told 85 = .ok (.ireturn, 1) := by decide +kernel
theorem dX6_told_86 : decode cX6_told 86 = .ok (.aload_n 0, 1) := by decide +kernel
theorem dX6_told_87 : decode cX6_told 87 = .ok (.getfield 30, 3) := by decide +kernel
theorem dX6_told_90 : decode cX6_told 90 = .ok (.iconst 1, 1) := by decide +kernel
theorem dX6_told_91 : decode cX6_told 91 = .ok (.iaload, 1) := by decide +kernel
theorem dX6_told_92 : decode cX6_told 92 = .ok (.ireturn, 1) := by decide +kernel
theorem dX6_told_93 : decode cX6_told 93 = .ok (.aload_n 0, 1) := by decide +kernel
theorem dX6_told_94 : decode cX6_told 94 = .ok (.getfield 30, 3) := by decide +kernel
theorem dX6_told_97 : decode cX6_told 97 = .ok (.iconst 2, 1) := by decide +kernel
theorem dX6_told_98 : decode cX6_told 98 = .ok (.iaload, 1) := by decide +kernel
theorem dX6_told_99 : decode cX6_told 99 = .ok (.ireturn, 1) := by decide +kernel
theorem dX6_told_100 : decode cX6_told 100 = .ok (.aload_n 0, 1) := by decide +kernel
theorem dX6_told_101 : decode cX6_told 101 = .ok (.getfield 30, 3) := by decide +kernel
theorem dX6_told_104 : decode cX6_told 104 = .ok (.iconst 3, 1) := by decide +kernel
theorem dX6_told_105 : decode cX6_told 105 = .ok (.iaload, 1) := by decide +kernel
theorem dX6_told_106 : decode cX6_told 106 = .ok (.ireturn, 1) := by decide +kernel
theorem dX6_told_107 : decode cX6_told 107 = .ok (.aload_n 0, 1) := by decide +kernel
theorem dX6_told_108 : decode cX6_told 108 = .ok (.getfield 30, 3) := by decide +kernel
theorem dX6_told_111 : decode cX6_told 111 = .ok (.bipush 7, 2) := by decide +kernel
theorem dX6_told_113 : decode cX6_told 113 = .ok (.iaload, 1) := by decide +kernel
theorem dX6_told_114 : decode cX6_told 114 = .ok (.ireturn, 1) := by decide +kernel
theorem dX6_told_115 : decode cX6_told 115 = .ok (.aload_n 0, 1) := by decide +kernel
theorem dX6_told_116 : decode cX6_told 116 = .ok (.getfield 19, 3) := by decide +kernel
theorem dX6_told_119 : decode cX6_told 119 = .ok (.getfield 207, 3) := by decide +kernel
theorem dX6_told_122 : decode cX6_told 122 = .ok (.ireturn, 1) := by decide +kernel
theorem dX6_told_123 : decode cX6_told 123 = .ok (.aload_n 0, 1) := by decide +kernel
theorem dX6_told_124 : decode cX6_told 124 = .ok (.bipush (-2), 2) := by decide +kernel
theorem dX6_told_126 : decode cX6_told 126 = .ok (.invokevirtual 61, 3) := by decide +kernel
theorem dX6_told_129 : decode cX6_told 129 = .ok (.ireturn, 1) := by decide +kernel
set_option maxRecDepth 20000 in
theorem ggX6_digest_X6_told : GoodIn wsX6_digest wsX6_told := goodIn_r _ [13, 14, 15, 16, 17, 18, 19, 20, 21, 22, 23, 24, 12, 25, 52, 53, 54, 55, 56, 57, 58, 72, 73, 74, 75, 76] (by decide +kernel) (by decide +kernel)
set_option maxRecDepth 20000 in
theorem gX6_digest_X6_told : GoodIn wsX6_digest (wsV RX6 230 RX6 yX6_told wsX6_told) := goodIn_app (goodIn_of _ (by decide +kernel)) ggX6_digest_X6_told
set_option maxRecDepth 20000 in
theorem ggX6_digest_X0_part : GoodIn wsX6_digest wsX0_part := goodIn_r _ [30, 31, 32, 33, 34, 35, 77, 78, 79, 80, 81] (by decide +kernel) (by decide +kernel)
set_option maxRecDepth 20000 in
theorem gX6_digest_X0_part : GoodIn wsX6_digest (wsV RX6 73 RX0 yX0_part wsX0_part) := goodIn_app (goodIn_of _ (by decide +kernel)) ggX6_digest_X0_part
set_option maxRecDepth 20000 in
theorem ggX6_digest_X5_countThin : GoodIn wsX6_digest wsX5_countThin := goodIn_r _ [40, 41, 42, 43, 39, 44, 45, 46, 82, 83, 84, 85, 86, 87, 88, 89] (by decide +kernel) (by decide +kernel)
set_option maxRecDepth 20000 in
theorem gX6_digest_X5_countThin : GoodIn wsX6_digest (wsV RX6 133 RX5 yX5_countThin wsX5_countThin) := goodIn_app (goodIn_of _ (by decide +kernel)) ggX6_digest_X5_countThin
set_option maxRecDepth 20000 in
theorem ggX6_digest_X5_countThick : GoodIn wsX6_digest wsX5_countThick := goodIn_r _ [50, 45, 51, 82, 83, 84, 85, 86, 87, 88, 89] (by decide +kernel) (by decide +kernel)
set_option maxRecDepth 20000 in
theorem gX6_digest_X5_countThick : GoodIn wsX6_digest (wsV RX6 136 RX5 yX5_countThick wsX5_countThick) := goodIn_app (goodIn_of _ (by decide +kernel)) ggX6_digest_X5_countThick
theorem dX6_digest_0 : decode cX6_digest 0 = .ok (.ldc2_w 226, 3) := by decide +kernel
theorem dX6_digest_3 : decode cX6_digest 3 = .ok (.lstore_n 1, 1) := by decide +kernel
theorem dX6_digest_4 : decode cX6_digest 4 = .ok (.iconst 0, 1) := by decide +kernel
theorem dX6_digest_5 : decode cX6_digest 5 = .ok (.istore_n 3, 1) := by decide +kernel
theorem dX6_digest_6 : decode cX6_digest 6 = .ok (.iload_n 3, 1) := by decide +kernel
theorem dX6_digest_7 : decode cX6_digest 7 = .ok (.bipush 9, 2) := by decide +kernel
theorem dX6_digest_9 : decode cX6_digest 9 = .ok (.if_icmp .gt 22, 3) := by decide +kernel
theorem dX6_digest_12 : decode cX6_digest 12 = .ok (.ldc2_w 228, 3) := by decide +kernel
theorem dX6_digest_15 : decode cX6_digest 15 = .ok (.lload_n 1, 1) := by decide +kernel
theorem dX6_digest_16 : decode cX6_digest 16 = .ok (.lmul, 1) := by decide +kernel
theorem dX6_digest_17 : decode cX6_digest 17 = .ok (.aload_n 0, 1) := by decide +kernel
theorem dX6_digest_18 : decode cX6_digest 18 = .ok (.iload_n 3, 1) := by decide +kernel
theorem dX6_digest_19 : decode cX6_digest 19 = .ok (.invokevirtual 230, 3) := by decide +kernel
theorem dX6_digest_22 : decode cX6_digest 22 = .ok (.i2l, 1) := by decide +kernel
theorem dX6_digest_23 : decode cX6_digest 23 = .ok (.ladd, 1) := by decide +kernel
theorem dX6_digest_24 : decode cX6_digest 24 = .ok (.lstore_n 1, 1) := by decide +kernel
theorem dX6_digest_25 : decode cX6_digest 25 = .ok (.iinc 3 1, 3) := by decide +kernel
theorem dX6_digest_28 : decode cX6_digest 28 = .ok (.goto (-22), 3) := by decide +kernel
theorem dX6_digest_31 : decode cX6_digest 31 = .ok (.iconst 1, 1) := by decide +kernel
theorem dX6_digest_32 : decode cX6_digest 32 = .ok (.istore_n 3, 1) := by decide +kernel
theorem dX6_digest_33 : decode cX6_digest 33 = .ok (.iload_n 3, 1) := by decide +kernel
theorem dX6_digest_34 : decode cX6_digest 34 = .ok (.iconst 4, 1) := by decide +kernel
theorem dX6_digest_35 : decode cX6_digest 35 = .ok (.if_icmp .ge 29, 3) := by decide +kernel
theorem dX6_digest_38 : decode cX6_digest 38 = .ok (.ldc2_w 228, 3) := by decide +kernel
theorem dX6_digest_41 : decode cX6_digest 41 = .ok (.lload_n 1, 1) := by decide +kernel
theorem dX6_digest_42 : decode cX6_digest 42 = .ok (.lmul, 1) := by decide +kernel
theorem dX6_digest_43 : decode cX6_digest 43 = .ok (.aload_n 0, 1) := by decide +kernel
theorem dX6_digest_44 : decode cX6_digest 44 = .ok (.getfield 10, 3) := by decide +kernel
theorem dX6_digest_47 : decode cX6_digest 47 = .ok (.getfield 157, 3) := by decide +kernel
theorem dX6_digest_50 : decode cX6_digest 50 = .ok (.getfield 233, 3) := by decide +kernel
theorem dX6_digest_53 : decode cX6_digest 53 = .ok (.iload_n 3, 1) := by decide +kernel
theorem dX6_digest_54 : decode cX6_digest 54 = .ok (.iaload, 1) := by decide +kernel
theorem dX6_digest_55 : decode cX6_digest 55 = .ok (.i2l, 1) := by decide +kernel
theorem dX6_digest_56 : decode cX6_digest 56 = .ok (.ladd, 1) := by decide +kernel
theorem dX6_digest_57 : decode cX6_digest 57 = .ok (.lstore_n 1, 1) := by decide +kernel
theorem dX6_digest_58 : decode cX6_digest 58 = .ok (.iinc 3 1, 3) := by decide +kernel
theorem dX6_digest_61 : decode cX6_digest 61 = .ok (.goto (-28), 3) := by decide +kernel
theorem dX6_digest_64 : decode cX6_digest 64 = .ok (.iconst 0, 1) := by decide +kernel
theorem dX6_digest_65 : decode cX6_digest 65 = .ok (.istore_n 3, 1) := by decide +kernel
theorem dX6_digest_66 : decode cX6_digest 66 = .ok (.iload_n 3, 1) := by decide +kernel
theorem dX6_digest_67 : decode cX6_digest 67 = .ok (.bipush 80, 2) := by decide +kernel
theorem dX6_digest_69 : decode cX6_digest 69 = .ok (.if_icmp .ge 46, 3) := by decide +kernel
theorem dX6_digest_72 : decode cX6_digest 72 = .ok (.iconst 0, 1) := by decide +kernel
theorem dX6_digest_73 : decode cX6_digest 73 = .ok (.istore 4, 2) := by decide +kernel
theorem dX6_digest_75 : decode cX6_digest 75 = .ok (.iload 4, 2) := by decide +kernel
theorem dX6_digest_77 : decode cX6_digest 77 = .ok (.iconst 4, 1) := by decide +kernel
theorem dX6_digest_78 : decode cX6_digest 78 = .ok (.if_icmp .gt 31, 3) := by decide +kernel
theorem dX6_digest_81 : decode cX6_digest 81 = .ok (.ldc2_w 228, 3) := by decide +kernel
theorem dX6_digest_84 : decode cX6_digest 84 = .ok (.lload_n 1, 1) := by decide +kernel
theorem dX6_digest_85 : decode cX6_digest 85 = .ok (.lmul, 1) := by decide +kernel
theorem dX6_digest_86 : decode cX6_digest 86 = .ok (.aload_n 0, 1) := by decide +kernel
theorem dX6_digest_87 : decode cX6_digest 87 = .ok (.getfield 10, 3) := by decide +kernel
theorem dX6_digest_90 : decode cX6_digest 90 = .ok (.getfield 65, 3) := by decide +kernel
theorem dX6_digest_93 : decode cX6_digest 93 = .ok (.iload 4, 2) := by decide +kernel
theorem dX6_digest_95 : decode cX6_digest 95 = .ok (.invokevirtual 73, 3) := by decide +kernel
theorem dX6_digest_98 : decode cX6_digest 98 = .ok (.iload_n 3, 1) := by decide +kernel
theorem dX6_digest_99 : decode cX6_digest 99 = .ok (.iaload, 1) := by decide +kernel
theorem dX6_digest_100 : decode cX6_digest 100 = .ok (.i2l, 1) := by decide +kernel
theorem dX6_digest_101 : decode cX6_digest 101 = .ok (.ladd, 1) := by decide +kernel
theorem dX6_digest_102 : decode cX6_digest 102 = .ok (.lstore_n 1, 1) := by decide +kernel
theorem dX6_digest_103 : decode cX6_digest 103 = .ok (.iinc 4 1, 3) := by decide +kernel
theorem dX6_digest_106 : decode cX6_digest 106 = .ok (.goto (-31), 3) := by decide +kernel
theorem dX6_digest_109 : decode cX6_digest 109 = .ok (.iinc 3 1, 3) := by decide +kernel
theorem dX6_digest_112 : decode cX6_digest 112 = .ok (.goto (-46), 3) := by decide +kernel
theorem dX6_digest_115 : decode cX6_digest 115 = .ok (.ldc2_w 228, 3) := by decide +kernel
theorem dX6_digest_118 : decode cX6_digest 118 = .ok (.lload_n 1, 1) := by decide +kernel
theorem dX6_digest_119 : decode cX6_digest 119 = .ok (.lmul, 1) := by decide +kernel
theorem dX6_digest_120 : decode cX6_digest 120 = .ok (.aload_n 0, 1) := by decide +kernel
theorem dX6_digest_121 : decode cX6_digest 121 = .ok (.getfield 10, 3) := by decide +kernel
theorem dX6_digest_124 : decode cX6_digest 124 = .ok (.getfield 117, 3) := by decide +kernel
theorem dX6_digest_127 : decode cX6_digest 127 = .ok (.invokevirtual 133, 3) := by decide +kernel
theorem dX6_digest_130 : decode cX6_digest 130 = .ok (.i2l, 1) := by decide +kernel
theorem dX6_digest_131 : decode cX6_digest 131 = .ok (.ladd, 1) := by decide +kernel
theorem dX6_digest_132 : decode cX6_digest 132 = .ok (.lstore_n 1, 1) := by decide +kernel
theorem dX6_digest_133 : decode cX6_digest 133 = .ok (.ldc2_w 228, 3) := by decide +kernel
theorem dX6_digest_136 : decode cX6_digest 136 = .ok (.lload_n 1, 1) := by decide +kernel
theorem dX6_digest_137 : decode cX6_digest 137 = .ok (.lmul, 1) := by decide +kernel
theorem dX6_digest_138 : decode cX6_digest 138 = .ok (.aload_n 0, 1) := by decide +kernel
theorem dX6_digest_139 : decode cX6_digest 139 = .ok (.getfield 10, 3) := by decide +kernel
theorem dX6_digest_142 : decode cX6_digest 142 = .ok (.getfield 117, 3) := by decide +kernel
theorem dX6_digest_145 : decode cX6_digest 145 = .ok (.invokevirtual 136, 3) := by decide +kernel
theorem dX6_digest_148 : decode cX6_digest 148 = .ok (.i2l, 1) := by decide +kernel
theorem dX6_digest_149 : decode cX6_digest 149 = .ok (.ladd, 1) := by decide +kernel
theorem dX6_digest_150 : decode cX6_digest 150 = .ok (.lstore_n 1, 1) := by decide +kernel
theorem dX6_digest_151 : decode cX6_digest 151 = .ok (.iconst 1, 1) := by decide +kernel
theorem dX6_digest_152 : decode cX6_digest 152 = .ok (.istore_n 3, 1) := by decide +kernel
theorem dX6_digest_153 : decode cX6_digest 153 = .ok (.iload_n 3, 1) := by decide +kernel
theorem dX6_digest_154 : decode cX6_digest 154 = .ok (.iconst 4, 1) := by decide +kernel
theorem dX6_digest_155 : decode cX6_digest 155 = .ok (.if_icmp .ge 29, 3) := by decide +kernel
theorem dX6_digest_158 : decode cX6_digest 158 = .ok (.ldc2_w 228, 3) := by decide +kernel
theorem dX6_digest_161 : decode cX6_digest 161 = .ok (.lload_n 1, 1) := by decide +kernel
theorem dX6_digest_162 : decode cX6_digest 162 = .ok (.lmul, 1) := by decide +kernel
theorem dX6_digest_163 : decode cX6_digest 163 = .ok (.aload_n 0, 1) := by decide +kernel
theorem dX6_digest_164 : decode cX6_digest 164 = .ok (.getfield 10, 3) := by decide +kernel
theorem dX6_digest_167 : decode cX6_digest 167 = .ok (.getfield 157, 3) := by decide +kernel
theorem dX6_digest_170 : decode cX6_digest 170 = .ok (.getfield 161, 3) := by decide +kernel
theorem dX6_digest_173 : decode cX6_digest 173 = .ok (.iload_n 3, 1) := by decide +kernel
theorem dX6_digest_174 : decode cX6_digest 174 = .ok (.iaload, 1) := by decide +kernel
theorem dX6_digest_175 : decode cX6_digest 175 = .ok (.i2l, 1) := by decide +kernel
theorem dX6_digest_176 : decode cX6_digest 176 = .ok (.ladd, 1) := by decide +kernel
theorem dX6_digest_177 : decode cX6_digest 177 = .ok (.lstore_n 1, 1) := by decide +kernel
theorem dX6_digest_178 : decode cX6_digest 178 = .ok (.iinc 3 1, 3) := by decide +kernel
theorem dX6_digest_181 : decode cX6_digest 181 = .ok (.goto (-28), 3) := by decide +kernel
theorem dX6_digest_184 : decode cX6_digest 184 = .ok (.lload_n 1, 1) := by decide +kernel
theorem dX6_digest_185 : decode cX6_digest 185 = .ok (.lreturn, 1) := by decide +kernel
theorem dX6_refuse_0 : decode cX6_refuse 0 = .ok (.iload_n 1, 1) := by decide +kernel
theorem dX6_refuse_1 : decode cX6_refuse 1 = .ok (.bipush (-2), 2) := by decide +kernel
theorem dX6_refuse_3 : decode cX6_refuse 3 = .ok (.if_icmp .ne 16, 3) := by decide +kernel
theorem dX6_refuse_6 : decode cX6_refuse 6 = .ok (.aload_n 0, 1) := by decide +kernel
theorem dX6_refuse_7 : decode cX6_refuse 7 = .ok (.dup, 1) := by decide +kernel
theorem dX6_refuse_8 : decode cX6_refuse 8 = .ok (.getfield 34, 3) := by decide +kernel
theorem dX6_refuse_11 : decode cX6_refuse 11 = .ok (.iconst 1, 1) := by decide +kernel
theorem dX6_refuse_12 : decode cX6_refuse 12 = .ok (.iadd, 1) := by decide +kernel
theorem dX6_refuse_13 : decode cX6_refuse 13 = .ok (.putfield 34, 3) := by decide +kernel
theorem dX6_refuse_16 : decode cX6_refuse 16 = .ok (.goto 32, 3) := by decide +kernel
theorem dX6_refuse_19 : decode cX6_refuse 19 = .ok (.iload_n 1, 1) := by decide +kernel
theorem dX6_refuse_20 : decode cX6_refuse 20 = .ok (.bipush (-3), 2) := by decide +kernel
theorem dX6_refuse_22 : decode cX6_refuse 22 = .ok (.if_icmp .ne 16, 3) := by decide +kernel
theorem dX6_refuse_25 : decode cX6_refuse 25 = .ok (.aload_n 0, 1) := by decide +kernel
theorem dX6_refuse_26 : decode cX6_refuse 26 = .ok (.dup, 1) := by decide +kernel
theorem dX6_refuse_27 : decode cX6_refuse 27 = .ok (.getfield 38, 3) := by decide +kernel
theorem dX6_refuse_30 : decode cX6_refuse 30 = .ok (.iconst 1, 1) := by decide +kernel
theorem dX6_refuse_31 : decode cX6_refuse 31 = .ok (.iadd, 1) := by decide +kernel
theorem dX6_refuse_32 : decode cX6_refuse 32 = .ok (.putfield 38, 3) := by decide +kernel
theorem dX6_refuse_35 : decode cX6_refuse 35 = .ok (.goto 13, 3) := by decide +kernel
theorem dX6_refuse_38 : decode cX6_refuse 38 = .ok (.aload_n 0, 1) := by decide +kernel
theorem dX6_refuse_39 : decode cX6_refuse 39 = .ok (.dup, 1) := by decide +kernel
theorem dX6_refuse_40 : decode cX6_refuse 40 = .ok (.getfield 41, 3) := by decide +kernel
theorem dX6_refuse_43 : decode cX6_refuse 43 = .ok (.iconst 1, 1) := by decide +kernel
theorem dX6_refuse_44 : decode cX6_refuse 44 = .ok (.iadd, 1) := by decide +kernel
theorem dX6_refuse_45 : decode cX6_refuse 45 = .ok (.putfield 41, 3) := by decide +kernel
theorem dX6_refuse_48 : decode cX6_refuse 48 = .ok (.iload_n 1, 1) := by decide +kernel
theorem dX6_refuse_49 : decode cX6_refuse 49 = .ok (.ireturn, 1) := by decide +kernel
set_option maxRecDepth 20000 in
theorem ggX6_changeFamily_X2_note : GoodIn wsX6_changeFamily wsX2_note := goodIn_r _ [9, 10, 11, 12, 13, 14, 8, 15, 16, 17, 18, 19, 20, 21, 22, 23, 24, 25, 26, 104, 105, 106, 99, 100, 101, 102, 103] (by decide +kernel) (by decide +kernel)
set_option maxRecDepth 20000 in
theorem gX6_changeFamily_X2_note : GoodIn wsX6_changeFamily (wsV RX6 69 RX2 yX2_note wsX2_note) := goodIn_app (goodIn_of _ (by decide +kernel)) ggX6_changeFamily_X2_note
set_option maxRecDepth 20000 in
theorem ggX6_changeFamily_X1_change : GoodIn wsX6_changeFamily wsX1_change := goodIn_r _ [31, 32, 33, 34, 35, 36, 37, 38, 39, 40, 41, 42, 43, 44, 45, 46, 47, 48, 49, 50, 51, 52, 53, 54, 55, 56, 57, 58, 59, 60, 61, 62, 63, 64, 65, 66, 67, 68, 69, 70, 71, 72, 73, 74, 75, 76, 77, 78, 90, 91, 92, 93, 94, 95, 96, 97, 98, 99, 100, 101, 102, 103, 107, 108, 109, 110, 111, 112, 113, 114, 115, 116, 117, 118] (by decide +kernel) (by decide +kernel)
set_option maxRecDepth 20000 in
theorem gX6_changeFamily_X1_change : GoodIn wsX6_changeFamily (wsV RX6 236 RX1 yX1_change wsX1_change) := goodIn_app (goodIn_of _ (by decide +kernel)) ggX6_changeFamily_X1_change
set_option maxRecDepth 20000 in
theorem ggX6_changeFamily_X2_keep : GoodIn wsX6_changeFamily wsX2_keep := goodIn_r _ [82, 10, 16, 104, 105, 106] (by decide +kernel) (by decide +kernel)
set_option maxRecDepth 20000 in
theorem gX6_changeFamily_X2_keep : GoodIn wsX6_changeFamily (wsV RX6 85 RX2 yX2_keep wsX2_keep) := goodIn_app (goodIn_of _ (by decide +kernel)) ggX6_changeFamily_X2_keep
theorem dX6_changeFamily_0 : decode cX6_changeFamily 0 = .ok (.aload_n 0, 1) := by decide +kernel
theorem dX6_changeFamily_1 : decode cX6_changeFamily 1 = .ok (.getfield 19, 3) := by decide +kernel
theorem dX6_changeFamily_4 : decode cX6_changeFamily 4 = .ok (.aload_n 0, 1) := by decide +kernel
theorem dX6_changeFamily_5 : decode cX6_changeFamily 5 = .ok (.getfield 10, 3) := by decide +kernel
theorem dX6_changeFamily_8 : decode cX6_changeFamily 8 = .ok (.getfield 65, 3) := by decide +kernel
theorem dX6_changeFamily_11 : decode cX6_changeFamily 11 = .ok (.invokevirtual 69, 3) := by decide +kernel
theorem dX6_changeFamily_14 : decode cX6_changeFamily 14 = .ok (.aload_n 0, 1) := by decide +kernel
theorem dX6_changeFamily_15 : decode cX6_changeFamily 15 = .ok (.getfield 10, 3) := by decide +kernel
theorem dX6_changeFamily_18 : decode cX6_changeFamily 18 = .ok (.iload_n 1, 1) := by decide +kernel
theorem dX6_changeFamily_19 : decode cX6_changeFamily 19 = .ok (.iload_n 2, 1) := by decide +kernel
theorem dX6_changeFamily_20 : decode cX6_changeFamily 20 = .ok (.invokevirtual 236, 3) := by decide +kernel
theorem dX6_changeFamily_23 : decode cX6_changeFamily 23 = .ok (.aload_n 0, 1) := by decide +kernel
theorem dX6_changeFamily_24 : decode cX6_changeFamily 24 = .ok (.getfield 19, 3) := by decide +kernel
theorem dX6_changeFamily_27 : decode cX6_changeFamily 27 = .ok (.invokevirtual 85, 3) := by decide +kernel
theorem dX6_changeFamily_30 : decode cX6_changeFamily 30 = .ok (.aload_n 0, 1) := by decide +kernel
theorem dX6_changeFamily_31 : decode cX6_changeFamily 31 = .ok (.getfield 10, 3) := by decide +kernel
theorem dX6_changeFamily_34 : decode cX6_changeFamily 34 = .ok (.getfield 65, 3) := by decide +kernel
theorem dX6_changeFamily_37 : decode cX6_changeFamily 37 = .ok (.getfield 93, 3) := by decide +kernel
theorem dX6_changeFamily_40 : decode cX6_changeFamily 40 = .ok (.iload_n 1, 1) := by decide +kernel
theorem dX6_changeFamily_41 : decode cX6_changeFamily 41 = .ok (.iaload, 1) := by decide +kernel
theorem dX6_changeFamily_42 : decode cX6_changeFamily 42 = .ok (.ireturn, 1) := by decide +kernel
set_option maxRecDepth 20000 in
theorem ggX6_useSettings_X1_measure : GoodIn wsX6_useSettings wsX1_measure := goodIn_r _ [14, 15, 16, 17, 18, 19, 20, 21, 22, 23, 24, 25, 26, 27, 28, 29, 30, 31, 32, 33, 34, 35, 36, 37, 38, 39, 40, 41, 42, 43, 44, 45, 46, 47, 48, 49, 50, 51, 52, 53, 54, 55, 56, 57, 58, 59, 60, 61, 62, 63, 64, 65, 66, 67, 68, 69, 70, 71, 72, 73, 74, 75, 76, 77, 78, 79, 80, 81, 89, 90, 91, 92, 93, 94, 95, 96, 97, 98, 99, 100, 101, 102, 103, 104, 105, 110, 111, 112, 113, 114, 106, 107, 108, 109] (by decide +kernel) (by decide +kernel)
set_option maxRecDepth 20000 in
theorem gX6_useSettings_X1_measure : GoodIn wsX6_useSettings (wsV RX6 82 RX1 yX1_measure wsX1_measure) := goodIn_app (goodIn_of _ (by decide +kernel)) ggX6_useSettings_X1_measure
theorem dX6_useSettings_0 : decode cX6_useSettings 0 = .ok (.aload_n 0, 1) := by decide +kernel
theorem dX6_useSettings_1 : decode cX6_useSettings 1 = .ok (.getfield 10, 3) := by decide +kernel
theorem dX6_useSettings_4 : decode cX6_useSettings 4 = .ok (.getfield 117, 3) := by decide +kernel
theorem dX6_useSettings_7 : decode cX6_useSettings 7 = .ok (.astore_n 1, 1) := by decide +kernel
theorem dX6_useSettings_8 : decode cX6_useSettings 8 = .ok (.aload_n 1, 1) := by decide +kernel
theorem dX6_useSettings_9 : decode cX6_useSettings 9 = .ok (.aload_n 0, 1) := by decide +kernel
theorem dX6_useSettings_10 : decode cX6_useSettings 10 = .ok (.getfield 30, 3) := by decide +kernel
theorem dX6_useSettings_13 : decode cX6_useSettings 13 = .ok (.iconst 0, 1) := by decide +kernel
theorem dX6_useSettings_14 : decode cX6_useSettings 14 = .ok (.iaload, 1) := by decide +kernel
theorem dX6_useSettings_15 : decode cX6_useSettings 15 = .ok (.putfield 239, 3) := by decide +kernel
theorem dX6_useSettings_18 : decode cX6_useSettings 18 = .ok (.aload_n 1, 1) := by decide +kernel
theorem dX6_useSettings_19 : decode cX6_useSettings 19 = .ok (.aload_n 0, 1) := by decide +kernel
theorem dX6_useSettings_20 : decode cX6_useSettings 20 = .ok (.getfield 30, 3) := by decide +kernel
theorem dX6_useSettings_23 : decode cX6_useSettings 23 = .ok (.iconst 1, 1) := by decide +kernel
theorem dX6_useSettings_24 : decode cX6_useSettings 24 = .ok (.iaload, 1) := by decide +kernel
theorem dX6_useSettings_25 : decode cX6_useSettings 25 = .ok (.putfield 242, 3) := by decide +kernel
theorem dX6_useSettings_28 : decode cX6_useSettings 28 = .ok (.aload_n 1, 1) := by decide +kernel
theorem dX6_useSettings_29 : decode cX6_useSettings 29 = .ok (.aload_n 0, 1) := by decide +kernel
theorem dX6_useSettings_30 : decode cX6_useSettings 30 = .ok (.getfield 30, 3) := by decide +kernel
theorem dX6_useSettings_33 : decode cX6_useSettings 33 = .ok (.iconst 2, 1) := by decide +kernel
theorem dX6_useSettings_34 : decode cX6_useSettings 34 = .ok (.iaload, 1) := by decide +kernel
theorem dX6_useSettings_35 : decode cX6_useSettings 35 = .ok (.putfield 245, 3) := by decide +kernel
theorem dX6_useSettings_38 : decode cX6_useSettings 38 = .ok (.aload_n 1, 1) := by decide +kernel
theorem dX6_useSettings_39 : decode cX6_useSettings 39 = .ok (.aload_n 0, 1) := by decide +kernel
theorem dX6_useSettings_40 : decode cX6_useSettings 40 = .ok (.getfield 30, 3) := by decide +kernel
theorem dX6_useSettings_43 : decode cX6_useSettings 43 = .ok (.iconst 3, 1) := by decide +kernel
theorem dX6_useSettings_44 : decode cX6_useSettings 44 = .ok (.iaload, 1) := by decide +kernel
theorem dX6_useSettings_45 : decode cX6_useSettings 45 = .ok (.putfield 248, 3) := by decide +kernel
theorem dX6_useSettings_48 : decode cX6_useSettings 48 = .ok (.iconst 1, 1) := by decide +kernel
theorem dX6_useSettings_49 : decode cX6_useSettings 49 = .ok (.istore_n 2, 1) := by decide +kernel
theorem dX6_useSettings_50 : decode cX6_useSettings 50 = .ok (.iload_n 2, 1) := by decide +kernel
theorem dX6_useSettings_51 : decode cX6_useSettings 51 = .ok (.iconst 4, 1) := by decide +kernel
theorem dX6_useSettings_52 : decode cX6_useSettings 52 = .ok (.if_icmp .ge 29, 3) := by decide +kernel
theorem dX6_useSettings_55 : decode cX6_useSettings 55 = .ok (.aload_n 0, 1) := by decide +kernel
theorem dX6_useSettings_56 : decode cX6_useSettings 56 = .ok (.getfield 10, 3) := by decide +kernel
theorem dX6_useSettings_59 : decode cX6_useSettings 59 = .ok (.getfield 157, 3) := by decide +kernel
theorem dX6_useSettings_62 : decode cX6_useSettings 62 = .ok (.getfield 233, 3) := by decide +kernel
theorem dX6_useSettings_65 : decode cX6_useSettings 65 = .ok (.iload_n 2, 1) := by decide +kernel
theorem dX6_useSettings_66 : decode cX6_useSettings 66 = .ok (.aload_n 0, 1) := by decide +kernel
theorem dX6_useSettings_67 : decode cX6_useSettings 67 = .ok (.getfield 30, 3) := by decide +kernel
theorem dX6_useSettings_70 : decode cX6_useSettings 70 = .ok (.iconst 3, 1) := by decide +kernel
theorem dX6_useSettings_71 : decode cX6_useSettings 71 = .ok (.iload_n 2, 1) := by decide +kernel
theorem dX6_useSettings_72 : decode cX6_useSettings 72 = .ok (.iadd, 1) := by decide +kernel
theorem dX6_useSettings_73 : decode cX6_useSettings 73 = .ok (.iaload, 1) := by decide +kernel
theorem dX6_useSettings_74 : decode cX6_useSettings 74 = .ok (.iastore, 1) := by decide +kernel
theorem dX6_useSettings_75 : decode cX6_useSettings 75 = .ok (.iinc 2 1, 3) := by decide +kernel
theorem dX6_useSettings_78 : decode cX6_useSettings 78 = .ok (.goto (-28), 3) := by decide +kernel
theorem dX6_useSettings_81 : decode cX6_useSettings 81 = .ok (.aload_n 0, 1) := by decide +kernel
theorem dX6_useSettings_82 : decode cX6_useSettings 82 = .ok (.getfield 10, 3) := by decide +kernel
theorem dX6_useSettings_85 : decode cX6_useSettings 85 = .ok (.invokevirtual 82, 3) := by decide +kernel
theorem dX6_useSettings_88 : decode cX6_useSettings 88 = .ok (.return_, 1) := by decide +kernel
theorem dX6_isIn_0 : decode cX6_isIn 0 = .ok (.iload_n 0, 1) := by decide +kernel
theorem dX6_isIn_1 : decode cX6_isIn 1 = .ok (.iload_n 1, 1) := by decide +kernel
theorem dX6_isIn_2 : decode cX6_isIn 2 = .ok (.if_icmp .lt 12, 3) := by decide +kernel
theorem dX6_isIn_5 : decode cX6_isIn 5 = .ok (.iload_n 0, 1) := by decide +kernel
theorem dX6_isIn_6 : decode cX6_isIn 6 = .ok (.iload_n 2, 1) := by decide +kernel
theorem dX6_isIn_7 : decode cX6_isIn 7 = .ok (.if_icmp .gt 7, 3) := by decide +kernel
theorem dX6_isIn_10 : decode cX6_isIn 10 = .ok (.iconst 1, 1) := by decide +kernel
theorem dX6_isIn_11 : decode cX6_isIn 11 = .ok (.goto 4, 3) := by decide +kernel
theorem dX6_isIn_14 : decode cX6_isIn 14 = .ok (.iconst 0, 1) := by decide +kernel
theorem dX6_isIn_15 : decode cX6_isIn 15 = .ok (.ireturn, 1) := by decide +kernel
set_option maxRecDepth 20000 in
theorem ggX6_isCell_X6_isIn : GoodIn wsX6_isCell wsX6_isIn := goodIn_r _ [4] (by decide +kernel) (by decide +kernel)
set_option maxRecDepth 20000 in
theorem gX6_isCell_X6_isIn : GoodIn wsX6_isCell (va_wsS RX6 54 yX6_isIn wsX6_isIn) := goodIn_app (goodIn_of _ (by decide +kernel)) ggX6_isCell_X6_isIn
theorem dX6_isCell_0 : decode cX6_isCell 0 = .ok (.iload_n 0, 1) := by decide +kernel
theorem dX6_isCell_1 : decode cX6_isCell 1 = .ok (.iconst 0, 1) := by decide +kernel
theorem dX6_isCell_2 : decode cX6_isCell 2 = .ok (.bipush 79, 2) := by decide +kernel
theorem dX6_isCell_4 : decode cX6_isCell 4 = .ok (.invokestatic 54, 3) := by decide +kernel
theorem dX6_isCell_7 : decode cX6_isCell 7 = .ok (.ireturn, 1) := by decide +kernel
theorem dX6_total_0 : decode cX6_total 0 = .ok (.iconst 0, 1) := by decide +kernel
theorem dX6_total_1 : decode cX6_total 1 = .ok (.istore_n 1, 1) := by decide +kernel
theorem dX6_total_2 : decode cX6_total 2 = .ok (.aload_n 0, 1) := by decide +kernel
theorem dX6_total_3 : decode cX6_total 3 = .ok (.astore_n 2, 1) := by decide +kernel
theorem dX6_total_4 : decode cX6_total 4 = .ok (.aload_n 2, 1) := by decide +kernel
theorem dX6_total_5 : decode cX6_total 5 = .ok (.arraylength, 1) := by decide +kernel
theorem dX6_total_6 : decode cX6_total 6 = .ok (.istore_n 3, 1) := by decide +kernel
theorem dX6_total_7 : decode cX6_total 7 = .ok (.iconst 0, 1) := by decide +kernel
theorem dX6_total_8 : decode cX6_total 8 = .ok (.istore 4, 2) := by decide +kernel
theorem dX6_total_10 : decode cX6_total 10 = .ok (.iload 4, 2) := by decide +kernel
theorem dX6_total_12 : decode cX6_total 12 = .ok (.iload_n 3, 1) := by decide +kernel
theorem dX6_total_13 : decode cX6_total 13 = .ok (.if_icmp .ge 20, 3) := by decide +kernel
theorem dX6_total_16 : decode cX6_total 16 = .ok (.aload_n 2, 1) := by decide +kernel
theorem dX6_total_17 : decode cX6_total 17 = .ok (.iload 4, 2) := by decide +kernel
theorem dX6_total_19 : decode cX6_total 19 = .ok (.iaload, 1) := by decide +kernel
theorem dX6_total_20 : decode cX6_total 20 = .ok (.istore 5, 2) := by decide +kernel
theorem dX6_total_22 : decode cX6_total 22 = .ok (.iload_n 1, 1) := by decide +kernel
theorem dX6_total_23 : decode cX6_total 23 = .ok (.iload 5, 2) := by decide +kernel
theorem dX6_total_25 : decode cX6_total 25 = .ok (.iadd, 1) := by decide +kernel
theorem dX6_total_26 : decode cX6_total 26 = .ok (.istore_n 1, 1) := by decide +kernel
theorem dX6_total_27 : decode cX6_total 27 = .ok (.iinc 4 1, 3) := by decide +kernel
theorem dX6_total_30 : decode cX6_total 30 = .ok (.goto (-20), 3) := by decide +kernel
theorem dX6_total_33 : decode cX6_total 33 = .ok (.iload_n 1, 1) := by decide +kernel
theorem dX6_total_34 : decode cX6_total 34 = .ok (.ireturn, 1) := by decide +kernel
