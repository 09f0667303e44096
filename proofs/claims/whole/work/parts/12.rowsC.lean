theorem dX7_init_0 : decode cX7_init 0 = .ok (.aload_n 0, 1) := by decide +kernel
theorem dX7_init_1 : decode cX7_init 1 = .ok (.invokespecial 1, 3) := by decide +kernel
theorem dX7_init_4 : decode cX7_init 4 = .ok (.aload_n 0, 1) := by decide +kernel
theorem dX7_init_5 : decode cX7_init 5 = .ok (.sipush 400, 3) := by decide +kernel
theorem dX7_init_8 : decode cX7_init 8 = .ok (.newarray .int, 2) := by decide +kernel
theorem dX7_init_10 : decode cX7_init 10 = .ok (.putfield 7, 3) := by decide +kernel
theorem dX7_init_13 : decode cX7_init 13 = .ok (.aload_n 0, 1) := by decide +kernel
theorem dX7_init_14 : decode cX7_init 14 = .ok (.sipush 3200, 3) := by decide +kernel
theorem dX7_init_17 : decode cX7_init 17 = .ok (.newarray .int, 2) := by decide +kernel
theorem dX7_init_19 : decode cX7_init 19 = .ok (.putfield 13, 3) := by decide +kernel
theorem dX7_init_22 : decode cX7_init 22 = .ok (.aload_n 0, 1) := by decide +kernel
theorem dX7_init_23 : decode cX7_init 23 = .ok (.sipush 400, 3) := by decide +kernel
theorem dX7_init_26 : decode cX7_init 26 = .ok (.newarray .int, 2) := by decide +kernel
theorem dX7_init_28 : decode cX7_init 28 = .ok (.putfield 16, 3) := by decide +kernel
theorem dX7_init_31 : decode cX7_init 31 = .ok (.aload_n 0, 1) := by decide +kernel
theorem dX7_init_32 : decode cX7_init 32 = .ok (.bipush 8, 2) := by decide +kernel
theorem dX7_init_34 : decode cX7_init 34 = .ok (.newarray .int, 2) := by decide +kernel
theorem dX7_init_36 : decode cX7_init 36 = .ok (.dup, 1) := by decide +kernel
theorem dX7_init_37 : decode cX7_init 37 = .ok (.iconst 0, 1) := by decide +kernel
theorem dX7_init_38 : decode cX7_init 38 = .ok (.iconst 2, 1) := by decide +kernel
theorem dX7_init_39 : decode cX7_init 39 = .ok (.iastore, 1) := by decide +kernel
theorem dX7_init_40 : decode cX7_init 40 = .ok (.dup, 1) := by decide +kernel
theorem dX7_init_41 : decode cX7_init 41 = .ok (.iconst 1, 1) := by decide +kernel
theorem dX7_init_42 : decode cX7_init 42 = .ok (.iconst 3, 1) := by decide +kernel
theorem dX7_init_43 : decode cX7_init 43 = .ok (.iastore, 1) := by decide +kernel
theorem dX7_init_44 : decode cX7_init 44 = .ok (.dup, 1) := by decide +kernel
theorem dX7_init_45 : decode cX7_init 45 = .ok (.iconst 2, 1) := by decide +kernel
theorem dX7_init_46 : decode cX7_init 46 = .ok (.iconst 0, 1) := by decide +kernel
theorem dX7_init_47 : decode cX7_init 47 = .ok (.iastore, 1) := by decide +kernel
theorem dX7_init_48 : decode cX7_init 48 = .ok (.dup, 1) := by decide +kernel
theorem dX7_init_49 : decode cX7_init 49 = .ok (.iconst 3, 1) := by decide +kernel
theorem dX7_init_50 : decode cX7_init 50 = .ok (.sipush 720, 3) := by decide +kernel
theorem dX7_init_53 : decode cX7_init 53 = .ok (.iastore, 1) := by decide +kernel
theorem dX7_init_54 : decode cX7_init 54 = .ok (.dup, 1) := by decide +kernel
theorem dX7_init_55 : decode cX7_init 55 = .ok (.iconst 4, 1) := by decide +kernel
theorem dX7_init_56 : decode cX7_init 56 = .ok (.bipush 99, 2) := by decide +kernel
theorem dX7_init_58 : decode cX7_init 58 = .ok (.iastore, 1) := by decide +kernel
theorem dX7_init_59 : decode cX7_init 59 = .ok (.dup, 1) := by decide +kernel
theorem dX7_init_60 : decode cX7_init 60 = .ok (.iconst 5, 1) := by decide +kernel
theorem dX7_init_61 : decode cX7_init 61 = .ok (.bipush 99, 2) := by decide +kernel
theorem dX7_init_63 : decode cX7_init 63 = .ok (.iastore, 1) := by decide +kernel
theorem dX7_init_64 : decode cX7_init 64 = .ok (.dup, 1) := by decide +kernel
theorem dX7_init_65 : decode cX7_init 65 = .ok (.bipush 6, 2) := by decide +kernel
theorem dX7_init_67 : decode cX7_init 67 = .ok (.bipush 99, 2) := by decide +kernel
theorem dX7_init_69 : decode cX7_init 69 = .ok (.iastore, 1) := by decide +kernel
theorem dX7_init_70 : decode cX7_init 70 = .ok (.dup, 1) := by decide +kernel
theorem dX7_init_71 : decode cX7_init 71 = .ok (.bipush 7, 2) := by decide +kernel
theorem dX7_init_73 : decode cX7_init 73 = .ok (.iconst 0, 1) := by decide +kernel
theorem dX7_init_74 : decode cX7_init 74 = .ok (.iastore, 1) := by decide +kernel
theorem dX7_init_75 : decode cX7_init 75 = .ok (.putfield 19, 3) := by decide +kernel
theorem dX7_init_78 : decode cX7_init 78 = .ok (.aload_n 0, 1) := by decide +kernel
theorem dX7_init_79 : decode cX7_init 79 = .ok (.iconst 3, 1) := by decide +kernel
theorem dX7_init_80 : decode cX7_init 80 = .ok (.newarray .int, 2) := by decide +kernel
theorem dX7_init_82 : decode cX7_init 82 = .ok (.putfield 22, 3) := by decide +kernel
theorem dX7_init_85 : decode cX7_init 85 = .ok (.aload_n 0, 1) := by decide +kernel
theorem dX7_init_86 : decode cX7_init 86 = .ok (.bipush 120, 2) := by decide +kernel
theorem dX7_init_88 : decode cX7_init 88 = .ok (.newarray .int, 2) := by decide +kernel
theorem dX7_init_90 : decode cX7_init 90 = .ok (.putfield 25, 3) := by decide +kernel
theorem dX7_init_93 : decode cX7_init 93 = .ok (.aload_n 0, 1) := by decide +kernel
theorem dX7_init_94 : decode cX7_init 94 = .ok (.bipush 80, 2) := by decide +kernel
theorem dX7_init_96 : decode cX7_init 96 = .ok (.newarray .int, 2) := by decide +kernel
theorem dX7_init_98 : decode cX7_init 98 = .ok (.putfield 28, 3) := by decide +kernel
theorem dX7_init_101 : decode cX7_init 101 = .ok (.aload_n 0, 1) := by decide +kernel
theorem dX7_init_102 : decode cX7_init 102 = .ok (.bipush 80, 2) := by decide +kernel
theorem dX7_init_104 : decode cX7_init 104 = .ok (.newarray .int, 2) := by decide +kernel
theorem dX7_init_106 : decode cX7_init 106 = .ok (.putfield 31, 3) := by decide +kernel
theorem dX7_init_109 : decode cX7_init 109 = .ok (.aload_n 0, 1) := by decide +kernel
theorem dX7_init_110 : decode cX7_init 110 = .ok (.bipush 80, 2) := by decide +kernel
theorem dX7_init_112 : decode cX7_init 112 = .ok (.newarray .int, 2) := by decide +kernel
theorem dX7_init_114 : decode cX7_init 114 = .ok (.putfield 34, 3) := by decide +kernel
theorem dX7_init_117 : decode cX7_init 117 = .ok (.aload_n 0, 1) := by decide +kernel
theorem dX7_init_118 : decode cX7_init 118 = .ok (.bipush 80, 2) := by decide +kernel
theorem dX7_init_120 : decode cX7_init 120 = .ok (.newarray .int, 2) := by decide +kernel
theorem dX7_init_122 : decode cX7_init 122 = .ok (.putfield 37, 3) := by decide +kernel
theorem dX7_init_125 : decode cX7_init 125 = .ok (.aload_n 0, 1) := by decide +kernel
theorem dX7_init_126 : decode cX7_init 126 = .ok (.iconst 4, 1) := by decide +kernel
theorem dX7_init_127 : decode cX7_init 127 = .ok (.newarray .int, 2) := by decide +kernel
theorem dX7_init_129 : decode cX7_init 129 = .ok (.putfield 40, 3) := by decide +kernel
theorem dX7_init_132 : decode cX7_init 132 = .ok (.aload_n 0, 1) := by decide +kernel
theorem dX7_init_133 : decode cX7_init 133 = .ok (.iconst 4, 1) := by decide +kernel
theorem dX7_init_134 : decode cX7_init 134 = .ok (.newarray .int, 2) := by decide +kernel
theorem dX7_init_136 : decode cX7_init 136 = .ok (.putfield 43, 3) := by decide +kernel
theorem dX7_init_139 : decode cX7_init 139 = .ok (.aload_n 0, 1) := by decide +kernel
theorem dX7_init_140 : decode cX7_init 140 = .ok (.bipush 15, 2) := by decide +kernel
theorem dX7_init_142 : decode cX7_init 142 = .ok (.newarray .int, 2) := by decide +kernel
theorem dX7_init_144 : decode cX7_init 144 = .ok (.putfield 46, 3) := by decide +kernel
theorem dX7_init_147 : decode cX7_init 147 = .ok (.return_, 1) := by decide +kernel
theorem dX7_in_0 : decode cX7_in 0 = .ok (.iload_n 0, 1) := by decide +kernel
theorem dX7_in_1 : decode cX7_in 1 = .ok (.iload_n 1, 1) := by decide +kernel
theorem dX7_in_2 : decode cX7_in 2 = .ok (.if_icmp .lt 12, 3) := by decide +kernel
theorem dX7_in_5 : decode cX7_in 5 = .ok (.iload_n 0, 1) := by decide +kernel
theorem dX7_in_6 : decode cX7_in 6 = .ok (.iload_n 2, 1) := by decide +kernel
theorem dX7_in_7 : decode cX7_in 7 = .ok (.if_icmp .gt 7, 3) := by decide +kernel
theorem dX7_in_10 : decode cX7_in 10 = .ok (.iconst 1, 1) := by decide +kernel
theorem dX7_in_11 : decode cX7_in 11 = .ok (.goto 4, 3) := by decide +kernel
theorem dX7_in_14 : decode cX7_in 14 = .ok (.iconst 0, 1) := by decide +kernel
theorem dX7_in_15 : decode cX7_in 15 = .ok (.ireturn, 1) := by decide +kernel
theorem dX7_refuses_0 : decode cX7_refuses 0 = .ok (.aload_n 0, 1) := by decide +kernel
theorem dX7_refuses_1 : decode cX7_refuses 1 = .ok (.getfield 22, 3) := by decide +kernel
theorem dX7_refuses_4 : decode cX7_refuses 4 = .ok (.bipush (-2), 2) := by decide +kernel
theorem dX7_refuses_6 : decode cX7_refuses 6 = .ok (.iload_n 1, 1) := by decide +kernel
theorem dX7_refuses_7 : decode cX7_refuses 7 = .ok (.isub, 1) := by decide +kernel
theorem dX7_refuses_8 : decode cX7_refuses 8 = .ok (.dup2, 1) := by decide +kernel
theorem dX7_refuses_9 : decode cX7_refuses 9 = .ok (.iaload, 1) := by decide +kernel
theorem dX7_refuses_10 : decode cX7_refuses 10 = .ok (.iconst 1, 1) := by decide +kernel
theorem dX7_refuses_11 : decode cX7_refuses 11 = .ok (.iadd, 1) := by decide +kernel
theorem dX7_refuses_12 : decode cX7_refuses 12 = .ok (.iastore, 1) := by decide +kernel
theorem dX7_refuses_13 : decode cX7_refuses 13 = .ok (.iload_n 1, 1) := by decide +kernel
theorem dX7_refuses_14 : decode cX7_refuses 14 = .ok (.ireturn, 1) := by decide +kernel
set_option maxRecDepth 20000 in
theorem ggX7_isCell_X7_in : GoodIn wsX7_isCell wsX7_in := goodIn_r _ [4] (by decide +kernel) (by decide +kernel)
set_option maxRecDepth 20000 in
theorem gX7_isCell_X7_in : GoodIn wsX7_isCell (va_wsS RX7 49 yX7_in wsX7_in) := goodIn_app (goodIn_of _ (by decide +kernel)) ggX7_isCell_X7_in
theorem dX7_isCell_0 : decode cX7_isCell 0 = .ok (.iload_n 0, 1) := by decide +kernel
theorem dX7_isCell_1 : decode cX7_isCell 1 = .ok (.iconst 0, 1) := by decide +kernel
theorem dX7_isCell_2 : decode cX7_isCell 2 = .ok (.bipush 79, 2) := by decide +kernel
theorem dX7_isCell_4 : decode cX7_isCell 4 = .ok (.invokestatic 49, 3) := by decide +kernel
theorem dX7_isCell_7 : decode cX7_isCell 7 = .ok (.ireturn, 1) := by decide +kernel
theorem dX7_sumOf_0 : decode cX7_sumOf 0 = .ok (.aload_n 0, 1) := by decide +kernel
theorem dX7_sumOf_1 : decode cX7_sumOf 1 = .ok (.getfield 7, 3) := by decide +kernel
theorem dX7_sumOf_4 : decode cX7_sumOf 4 = .ok (.iload_n 1, 1) := by decide +kernel
theorem dX7_sumOf_5 : decode cX7_sumOf 5 = .ok (.iaload, 1) := by decide +kernel
theorem dX7_sumOf_6 : decode cX7_sumOf 6 = .ok (.aload_n 0, 1) := by decide +kernel
theorem dX7_sumOf_7 : decode cX7_sumOf 7 = .ok (.getfield 7, 3) := by decide +kernel
theorem dX7_sumOf_10 : decode cX7_sumOf 10 = .ok (.sipush 320, 3) := by decide +kernel
theorem dX7_sumOf_13 : decode cX7_sumOf 13 = .ok (.iload_n 1, 1) := by decide +kernel
theorem dX7_sumOf_14 : decode cX7_sumOf 14 = .ok (.iadd, 1) := by decide +kernel
theorem dX7_sumOf_15 : decode cX7_sumOf 15 = .ok (.iaload, 1) := by decide +kernel
theorem dX7_sumOf_16 : decode cX7_sumOf 16 = .ok (.iadd, 1) := by decide +kernel
theorem dX7_sumOf_17 : decode cX7_sumOf 17 = .ok (.ireturn, 1) := by decide +kernel
theorem dX7_keeps_0 : decode cX7_keeps 0 = .ok (.aload_n 0, 1) := by decide +kernel
theorem dX7_keeps_1 : decode cX7_keeps 1 = .ok (.getfield 53, 3) := by decide +kernel
theorem dX7_keeps_4 : decode cX7_keeps 4 = .ok (.bipush 8, 2) := by decide +kernel
theorem dX7_keeps_6 : decode cX7_keeps 6 = .ok (.if_icmp .ne 44, 3) := by decide +kernel
theorem dX7_keeps_9 : decode cX7_keeps 9 = .ok (.iconst 0, 1) := by decide +kernel
theorem dX7_keeps_10 : decode cX7_keeps 10 = .ok (.istore_n 1, 1) := by decide +kernel
theorem dX7_keeps_11 : decode cX7_keeps 11 = .ok (.iload_n 1, 1) := by decide +kernel
theorem dX7_keeps_12 : decode cX7_keeps 12 = .ok (.sipush 2800, 3) := by decide +kernel
theorem dX7_keeps_15 : decode cX7_keeps 15 = .ok (.if_icmp .ge 25, 3) := by decide +kernel
theorem dX7_keeps_18 : decode cX7_keeps 18 = .ok (.aload_n 0, 1) := by decide +kernel
theorem dX7_keeps_19 : decode cX7_keeps 19 = .ok (.getfield 13, 3) := by decide +kernel
theorem dX7_keeps_22 : decode cX7_keeps 22 = .ok (.iload_n 1, 1) := by decide +kernel
theorem dX7_keeps_23 : decode cX7_keeps 23 = .ok (.aload_n 0, 1) := by decide +kernel
theorem dX7_keeps_24 : decode cX7_keeps 24 = .ok (.getfield 13, 3) := by decide +kernel
theorem dX7_keeps_27 : decode cX7_keeps 27 = .ok (.iload_n 1, 1) := by decide +kernel
theorem dX7_keeps_28 : decode cX7_keeps 28 = .ok (.sipush 400, 3) := by decide +kernel
theorem dX7_keeps_31 : decode cX7_keeps 31 = .ok (.iadd, 1) := by decide +kernel
theorem dX7_keeps_32 : decode cX7_keeps 32 = .ok (.iaload, 1) := by decide +kernel
theorem dX7_keeps_33 : decode cX7_keeps 33 = .ok (.iastore, 1) := by decide +kernel
theorem dX7_keeps_34 : decode cX7_keeps 34 = .ok (.iinc 1 1, 3) := by decide +kernel
theorem dX7_keeps_37 : decode cX7_keeps 37 = .ok (.goto (-26), 3) := by decide +kernel
theorem dX7_keeps_40 : decode cX7_keeps 40 = .ok (.aload_n 0, 1) := by decide +kernel
theorem dX7_keeps_41 : decode cX7_keeps 41 = .ok (.dup, 1) := by decide +kernel
theorem dX7_keeps_42 : decode cX7_keeps 42 = .ok (.getfield 53, 3) := by decide +kernel
theorem dX7_keeps_45 : decode cX7_keeps 45 = .ok (.iconst 1, 1) := by decide +kernel
theorem dX7_keeps_46 : decode cX7_keeps 46 = .ok (.isub, 1) := by decide +kernel
theorem dX7_keeps_47 : decode cX7_keeps 47 = .ok (.putfield 53, 3) := by decide +kernel
theorem dX7_keeps_50 : decode cX7_keeps 50 = .ok (.iconst 0, 1) := by decide +kernel
theorem dX7_keeps_51 : decode cX7_keeps 51 = .ok (.istore_n 1, 1) := by decide +kernel
theorem dX7_keeps_52 : decode cX7_keeps 52 = .ok (.iload_n 1, 1) := by decide +kernel
theorem dX7_keeps_53 : decode cX7_keeps 53 = .ok (.sipush 400, 3) := by decide +kernel
theorem dX7_keeps_56 : decode cX7_keeps 56 = .ok (.if_icmp .ge 30, 3) := by decide +kernel
theorem dX7_keeps_59 : decode cX7_keeps 59 = .ok (.aload_n 0, 1) := by decide +kernel
theorem dX7_keeps_60 : decode cX7_keeps 60 = .ok (.getfield 13, 3) := by decide +kernel
theorem dX7_keeps_63 : decode cX7_keeps 63 = .ok (.sipush 400, 3) := by decide +kernel
theorem dX7_keeps_66 : decode cX7_keeps 66 = .ok (.aload_n 0, 1) := by decide +kernel
theorem dX7_keeps_67 : decode cX7_keeps 67 = .ok (.getfield 53, 3) := by decide +kernel
theorem dX7_keeps_70 : decode cX7_keeps 70 = .ok (.imul, 1) := by decide +kernel
theorem dX7_keeps_71 : decode cX7_keeps 71 = .ok (.iload_n 1, 1) := by decide +kernel
theorem dX7_keeps_72 : decode cX7_keeps 72 = .ok (.iadd, 1) := by decide +kernel
theorem dX7_keeps_73 : decode cX7_keeps 73 = .ok (.aload_n 0, 1) := by decide +kernel
theorem dX7_keeps_74 : decode cX7_keeps 74 = .ok (.getfield 16, 3) := by decide +kernel
theorem dX7_keeps_77 : decode cX7_keeps 77 = .ok (.iload_n 1, 1) := by decide +kernel
theorem dX7_keeps_78 : decode cX7_keeps 78 = .ok (.iaload, 1) := by decide +kernel
theorem dX7_keeps_79 : decode cX7_keeps 79 = .ok (.iastore, 1) := by decide +kernel
theorem dX7_keeps_80 : decode cX7_keeps 80 = .ok (.iinc 1 1, 3) := by decide +kernel
theorem dX7_keeps_83 : decode cX7_keeps 83 = .ok (.goto (-31), 3) := by decide +kernel
theorem dX7_keeps_86 : decode cX7_keeps 86 = .ok (.aload_n 0, 1) := by decide +kernel
theorem dX7_keeps_87 : decode cX7_keeps 87 = .ok (.dup, 1) := by decide +kernel
theorem dX7_keeps_88 : decode cX7_keeps 88 = .ok (.getfield 53, 3) := by decide +kernel
theorem dX7_keeps_91 : decode cX7_keeps 91 = .ok (.iconst 1, 1) := by decide +kernel
theorem dX7_keeps_92 : decode cX7_keeps 92 = .ok (.iadd, 1) := by decide +kernel
theorem dX7_keeps_93 : decode cX7_keeps 93 = .ok (.putfield 53, 3) := by decide +kernel
theorem dX7_keeps_96 : decode cX7_keeps 96 = .ok (.return_, 1) := by decide +kernel
theorem dX7_aside_0 : decode cX7_aside 0 = .ok (.iconst 0, 1) := by decide +kernel
theorem dX7_aside_1 : decode cX7_aside 1 = .ok (.istore_n 1, 1) := by decide +kernel
theorem dX7_aside_2 : decode cX7_aside 2 = .ok (.iload_n 1, 1) := by decide +kernel
theorem dX7_aside_3 : decode cX7_aside 3 = .ok (.sipush 400, 3) := by decide +kernel
theorem dX7_aside_6 : decode cX7_aside 6 = .ok (.if_icmp .ge 21, 3) := by decide +kernel
theorem dX7_aside_9 : decode cX7_aside 9 = .ok (.aload_n 0, 1) := by decide +kernel
theorem dX7_aside_10 : decode cX7_aside 10 = .ok (.getfield 16, 3) := by decide +kernel
theorem dX7_aside_13 : decode cX7_aside 13 = .ok (.iload_n 1, 1) := by decide +kernel
theorem dX7_aside_14 : decode cX7_aside 14 = .ok (.aload_n 0, 1) := by decide +kernel
theorem dX7_aside_15 : decode cX7_aside 15 = .ok (.getfield 7, 3) := by decide +kernel
theorem dX7_aside_18 : decode cX7_aside 18 = .ok (.iload_n 1, 1) := by decide +kernel
theorem dX7_aside_19 : decode cX7_aside 19 = .ok (.iaload, 1) := by decide +kernel
theorem dX7_aside_20 : decode cX7_aside 20 = .ok (.iastore, 1) := by decide +kernel
theorem dX7_aside_21 : decode cX7_aside 21 = .ok (.iinc 1 1, 3) := by decide +kernel
theorem dX7_aside_24 : decode cX7_aside 24 = .ok (.goto (-22), 3) := by decide +kernel
theorem dX7_aside_27 : decode cX7_aside 27 = .ok (.return_, 1) := by decide +kernel
theorem dX7_back_0 : decode cX7_back 0 = .ok (.iconst 0, 1) := by decide +kernel
theorem dX7_back_1 : decode cX7_back 1 = .ok (.istore_n 1, 1) := by decide +kernel
theorem dX7_back_2 : decode cX7_back 2 = .ok (.iload_n 1, 1) := by decide +kernel
theorem dX7_back_3 : decode cX7_back 3 = .ok (.sipush 400, 3) := by decide +kernel
theorem dX7_back_6 : decode cX7_back 6 = .ok (.if_icmp .ge 21, 3) := by decide +kernel
theorem dX7_back_9 : decode cX7_back 9 = .ok (.aload_n 0, 1) := by decide +kernel
theorem dX7_back_10 : decode cX7_back 10 = .ok (.getfield 7, 3) := by decide +kernel
theorem dX7_back_13 : decode cX7_back 13 = .ok (.iload_n 1, 1) := by decide +kernel
theorem dX7_back_14 : decode cX7_back 14 = .ok (.aload_n 0, 1) := by decide +kernel
theorem dX7_back_15 : decode cX7_back 15 = .ok (.getfield 16, 3) := by decide +kernel
theorem dX7_back_18 : decode cX7_back 18 = .ok (.iload_n 1, 1) := by decide +kernel
theorem dX7_back_19 : decode cX7_back 19 = .ok (.iaload, 1) := by decide +kernel
theorem dX7_back_20 : decode cX7_back 20 = .ok (.iastore, 1) := by decide +kernel
theorem dX7_back_21 : decode cX7_back 21 = .ok (.iinc 1 1, 3) := by decide +kernel
theorem dX7_back_24 : decode cX7_back 24 = .ok (.goto (-22), 3) := by decide +kernel
theorem dX7_back_27 : decode cX7_back 27 = .ok (.return_, 1) := by decide +kernel
set_option maxRecDepth 20000 in
theorem ggX7_settles_X7_sumOf : GoodIn wsX7_settles wsX7_sumOf := goodIn_r _ [6, 1, 7, 8, 9, 10, 11, 12, 13, 14, 15, 16, 17, 18, 19, 20, 21, 22, 23] (by decide +kernel) (by decide +kernel)
set_option maxRecDepth 20000 in
theorem gX7_settles_X7_sumOf : GoodIn wsX7_settles (wsV RX7 57 RX7 yX7_sumOf wsX7_sumOf) := goodIn_app (goodIn_of _ (by decide +kernel)) ggX7_settles_X7_sumOf
theorem dX7_settles_0 : decode cX7_settles 0 = .ok (.iconst 0, 1) := by decide +kernel
theorem dX7_settles_1 : decode cX7_settles 1 = .ok (.istore_n 1, 1) := by decide +kernel
theorem dX7_settles_2 : decode cX7_settles 2 = .ok (.iload_n 1, 1) := by decide +kernel
theorem dX7_settles_3 : decode cX7_settles 3 = .ok (.bipush 80, 2) := by decide +kernel
theorem dX7_settles_5 : decode cX7_settles 5 = .ok (.if_icmp .ge 68, 3) := by decide +kernel
theorem dX7_settles_8 : decode cX7_settles 8 = .ok (.aload_n 0, 1) := by decide +kernel
theorem dX7_settles_9 : decode cX7_settles 9 = .ok (.getfield 7, 3) := by decide +kernel
theorem dX7_settles_12 : decode cX7_settles 12 = .ok (.sipush 320, 3) := by decide +kernel
theorem dX7_settles_15 : decode cX7_settles 15 = .ok (.iload_n 1, 1) := by decide +kernel
theorem dX7_settles_16 : decode cX7_settles 16 = .ok (.iadd, 1) := by decide +kernel
theorem dX7_settles_17 : decode cX7_settles 17 = .ok (.aload_n 0, 1) := by decide +kernel
theorem dX7_settles_18 : decode cX7_settles 18 = .ok (.getfield 7, 3) := by decide +kernel
theorem dX7_settles_21 : decode cX7_settles 21 = .ok (.bipush 80, 2) := by decide +kernel
theorem dX7_settles_23 : decode cX7_settles 23 = .ok (.iload_n 1, 1) := by decide +kernel
theorem dX7_settles_24 : decode cX7_settles 24 = .ok (.iadd, 1) := by decide +kernel
theorem dX7_settles_25 : decode cX7_settles 25 = .ok (.iaload, 1) := by decide +kernel
theorem dX7_settles_26 : decode cX7_settles 26 = .ok (.iconst 1, 1) := by decide +kernel
theorem dX7_settles_27 : decode cX7_settles 27 = .ok (.if_icmp .ne 7, 3) := by decide +kernel
theorem dX7_settles_30 : decode cX7_settles 30 = .ok (.iconst 0, 1) := by decide +kernel
theorem dX7_settles_31 : decode cX7_settles 31 = .ok (.goto 35, 3) := by decide +kernel
theorem dX7_settles_34 : decode cX7_settles 34 = .ok (.aload_n 0, 1) := by decide +kernel
theorem dX7_settles_35 : decode cX7_settles 35 = .ok (.iload_n 1, 1) := by decide +kernel
theorem dX7_settles_36 : decode cX7_settles 36 = .ok (.invokevirtual 57, 3) := by decide +kernel
theorem dX7_settles_39 : decode cX7_settles 39 = .ok (.bipush 9, 2) := by decide +kernel
theorem dX7_settles_41 : decode cX7_settles 41 = .ok (.if_icmp .le 15, 3) := by decide +kernel
theorem dX7_settles_44 : decode cX7_settles 44 = .ok (.bipush 9, 2) := by decide +kernel
theorem dX7_settles_46 : decode cX7_settles 46 = .ok (.aload_n 0, 1) := by decide +kernel
theorem dX7_settles_47 : decode cX7_settles 47 = .ok (.getfield 7, 3) := by decide +kernel
theorem dX7_settles_50 : decode cX7_settles 50 = .ok (.iload_n 1, 1) := by decide +kernel
theorem dX7_settles_51 : decode cX7_settles 51 = .ok (.iaload, 1) := by decide +kernel
theorem dX7_settles_52 : decode cX7_settles 52 = .ok (.isub, 1) := by decide +kernel
theorem dX7_settles_53 : decode cX7_settles 53 = .ok (.goto 13, 3) := by decide +kernel
theorem dX7_settles_56 : decode cX7_settles 56 = .ok (.aload_n 0, 1) := by decide +kernel
theorem dX7_settles_57 : decode cX7_settles 57 = .ok (.getfield 7, 3) := by decide +kernel
theorem dX7_settles_60 : decode cX7_settles 60 = .ok (.sipush 320, 3) := by decide +kernel
theorem dX7_settles_63 : decode cX7_settles 63 = .ok (.iload_n 1, 1) := by decide +kernel
theorem dX7_settles_64 : decode cX7_settles 64 = .ok (.iadd, 1) := by decide +kernel
theorem dX7_settles_65 : decode cX7_settles 65 = .ok (.iaload, 1) := by decide +kernel
theorem dX7_settles_66 : decode cX7_settles 66 = .ok (.iastore, 1) := by decide +kernel
theorem dX7_settles_67 : decode cX7_settles 67 = .ok (.iinc 1 1, 3) := by decide +kernel
theorem dX7_settles_70 : decode cX7_settles 70 = .ok (.goto (-68), 3) := by decide +kernel
theorem dX7_settles_73 : decode cX7_settles 73 = .ok (.iconst 1, 1) := by decide +kernel
theorem dX7_settles_74 : decode cX7_settles 74 = .ok (.istore_n 1, 1) := by decide +kernel
theorem dX7_settles_75 : decode cX7_settles 75 = .ok (.iload_n 1, 1) := by decide +kernel
theorem dX7_settles_76 : decode cX7_settles 76 = .ok (.iconst 4, 1) := by decide +kernel
theorem dX7_settles_77 : decode cX7_settles 77 = .ok (.if_icmp .ge 121, 3) := by decide +kernel
theorem dX7_settles_80 : decode cX7_settles 80 = .ok (.bipush 9, 2) := by decide +kernel
theorem dX7_settles_82 : decode cX7_settles 82 = .ok (.istore_n 2, 1) := by decide +kernel
theorem dX7_settles_83 : decode cX7_settles 83 = .ok (.iconst 0, 1) := by decide +kernel
theorem dX7_settles_84 : decode cX7_settles 84 = .ok (.istore_n 3, 1) := by decide +kernel
theorem dX7_settles_85 : decode cX7_settles 85 = .ok (.iload_n 3, 1) := by decide +kernel
theorem dX7_settles_86 : decode cX7_settles 86 = .ok (.bipush 80, 2) := by decide +kernel
theorem dX7_settles_88 : decode cX7_settles 88 = .ok (.if_icmp .ge 52, 3) := by decide +kernel
theorem dX7_settles_91 : decode cX7_settles 91 = .ok (.aload_n 0, 1) := by decide +kernel
theorem dX7_settles_92 : decode cX7_settles 92 = .ok (.getfield 7, 3) := by decide +kernel
theorem dX7_settles_95 : decode cX7_settles 95 = .ok (.sipush 240, 3) := by decide +kernel
theorem dX7_settles_98 : decode cX7_settles 98 = .ok (.iload_n 3, 1) := by decide +kernel
theorem dX7_settles_99 : decode cX7_settles 99 = .ok (.iadd, 1) := by decide +kernel
theorem dX7_settles_100 : decode cX7_settles 100 = .ok (.iaload, 1) := by decide +kernel
theorem dX7_settles_101 : decode cX7_settles 101 = .ok (.iload_n 1, 1) := by decide +kernel
theorem dX7_settles_102 : decode cX7_settles 102 = .ok (.if_icmp .ne 30, 3) := by decide +kernel
theorem dX7_settles_105 : decode cX7_settles 105 = .ok (.aload_n 0, 1) := by decide +kernel
theorem dX7_settles_106 : decode cX7_settles 106 = .ok (.getfield 7, 3) := by decide +kernel
theorem dX7_settles_109 : decode cX7_settles 109 = .ok (.sipush 320, 3) := by decide +kernel
theorem dX7_settles_112 : decode cX7_settles 112 = .ok (.iload_n 3, 1) := by decide +kernel
theorem dX7_settles_113 : decode cX7_settles 113 = .ok (.iadd, 1) := by decide +kernel
theorem dX7_settles_114 : decode cX7_settles 114 = .ok (.iaload, 1) := by decide +kernel
theorem dX7_settles_115 : decode cX7_settles 115 = .ok (.iload_n 2, 1) := by decide +kernel
theorem dX7_settles_116 : decode cX7_settles 116 = .ok (.if_icmp .ge 16, 3) := by decide +kernel
theorem dX7_settles_119 : decode cX7_settles 119 = .ok (.aload_n 0, 1) := by decide +kernel
theorem dX7_settles_120 : decode cX7_settles 120 = .ok (.getfield 7, 3) := by decide +kernel
theorem dX7_settles_123 : decode cX7_settles 123 = .ok (.sipush 320, 3) := by decide +kernel
theorem dX7_settles_126 : decode cX7_settles 126 = .ok (.iload_n 3, 1) := by decide +kernel
theorem dX7_settles_127 : decode cX7_settles 127 = .ok (.iadd, 1) := by decide +kernel
theorem dX7_settles_128 : decode cX7_settles 128 = .ok (.iaload, 1) := by decide +kernel
theorem dX7_settles_129 : decode cX7_settles 129 = .ok (.goto 4, 3) := by decide +kernel
theorem dX7_settles_132 : decode cX7_settles 132 = .ok (.iload_n 2, 1) := by decide +kernel
theorem dX7_settles_133 : decode cX7_settles 133 = .ok (.istore_n 2, 1) := by decide +kernel
theorem dX7_settles_134 : decode cX7_settles 134 = .ok (.iinc 3 1, 3) := by decide +kernel
theorem dX7_settles_137 : decode cX7_settles 137 = .ok (.goto (-52), 3) := by decide +kernel
theorem dX7_settles_140 : decode cX7_settles 140 = .ok (.iconst 0, 1) := by decide +kernel
theorem dX7_settles_141 : decode cX7_settles 141 = .ok (.istore_n 3, 1) := by decide +kernel
theorem dX7_settles_142 : decode cX7_settles 142 = .ok (.iload_n 3, 1) := by decide +kernel
theorem dX7_settles_143 : decode cX7_settles 143 = .ok (.bipush 80, 2) := by decide +kernel
theorem dX7_settles_145 : decode cX7_settles 145 = .ok (.if_icmp .ge 47, 3) := by decide +kernel
theorem dX7_settles_148 : decode cX7_settles 148 = .ok (.aload_n 0, 1) := by decide +kernel
theorem dX7_settles_149 : decode cX7_settles 149 = .ok (.getfield 7, 3) := by decide +kernel
theorem dX7_settles_152 : decode cX7_settles 152 = .ok (.sipush 320, 3) := by decide +kernel
theorem dX7_settles_155 : decode cX7_settles 155 = .ok (.iload_n 3, 1) := by decide +kernel
theorem dX7_settles_156 : decode cX7_settles 156 = .ok (.iadd, 1) := by decide +kernel
theorem dX7_settles_157 : decode cX7_settles 157 = .ok (.aload_n 0, 1) := by decide +kernel
theorem dX7_settles_158 : decode cX7_settles 158 = .ok (.getfield 7, 3) := by decide +kernel
theorem dX7_settles_161 : decode cX7_settles 161 = .ok (.sipush 240, 3) := by decide +kernel
theorem dX7_settles_164 : decode cX7_settles 164 = .ok (.iload_n 3, 1) := by decide +kernel
theorem dX7_settles_165 : decode cX7_settles 165 = .ok (.iadd, 1) := by decide +kernel
theorem dX7_settles_166 : decode cX7_settles 166 = .ok (.iaload, 1) := by decide +kernel
theorem dX7_settles_167 : decode cX7_settles 167 = .ok (.iload_n 1, 1) := by decide +kernel
theorem dX7_settles_168 : decode cX7_settles 168 = .ok (.if_icmp .ne 7, 3) := by decide +kernel
theorem dX7_settles_171 : decode cX7_settles 171 = .ok (.iload_n 2, 1) := by decide +kernel
theorem dX7_settles_172 : decode cX7_settles 172 = .ok (.goto 13, 3) := by decide +kernel
theorem dX7_settles_175 : decode cX7_settles 175 = .ok (.aload_n 0, 1) := by decide +kernel
theorem dX7_settles_176 : decode cX7_settles 176 = .ok (.getfield 7, 3) := by decide +kernel
theorem dX7_settles_179 : decode cX7_settles 179 = .ok (.sipush 320, 3) := by decide +kernel
theorem dX7_settles_182 : decode cX7_settles 182 = .ok (.iload_n 3, 1) := by decide +kernel
theorem dX7_settles_183 : decode cX7_settles 183 = .ok (.iadd, 1) := by decide +kernel
theorem dX7_settles_184 : decode cX7_settles 184 = .ok (.iaload, 1) := by decide +kernel
theorem dX7_settles_185 : decode cX7_settles 185 = .ok (.iastore, 1) := by decide +kernel
theorem dX7_settles_186 : decode cX7_settles 186 = .ok (.iinc 3 1, 3) := by decide +kernel
theorem dX7_settles_189 : decode cX7_settles 189 = .ok (.goto (-47), 3) := by decide +kernel
theorem dX7_settles_192 : decode cX7_settles 192 = .ok (.iinc 1 1, 3) := by decide +kernel
theorem dX7_settles_195 : decode cX7_settles 195 = .ok (.goto (-120), 3) := by decide +kernel
theorem dX7_settles_198 : decode cX7_settles 198 = .ok (.return_, 1) := by decide +kernel
set_option maxRecDepth 20000 in
theorem ggX7_sets_X7_isCell : GoodIn wsX7_sets wsX7_isCell := goodIn_r _ [5, 6, 7, 4, 8] (by decide +kernel) (by decide +kernel)
set_option maxRecDepth 20000 in
theorem gX7_sets_X7_isCell : GoodIn wsX7_sets (va_wsS RX7 61 yX7_isCell wsX7_isCell) := goodIn_app (goodIn_of _ (by decide +kernel)) ggX7_sets_X7_isCell
set_option maxRecDepth 20000 in
theorem ggX7_sets_X7_in : GoodIn wsX7_sets wsX7_in := goodIn_r _ [8] (by decide +kernel) (by decide +kernel)
set_option maxRecDepth 20000 in
theorem gX7_sets_X7_in : GoodIn wsX7_sets (va_wsS RX7 49 yX7_in wsX7_in) := goodIn_app (goodIn_of _ (by decide +kernel)) ggX7_sets_X7_in
set_option maxRecDepth 20000 in
theorem ggX7_sets_X7_refuses : GoodIn wsX7_sets wsX7_refuses := goodIn_r _ [12, 13, 33, 34, 35, 36, 37, 38, 39, 40, 41, 42, 43, 44, 45, 46, 47, 48, 49] (by decide +kernel) (by decide +kernel)
set_option maxRecDepth 20000 in
theorem gX7_sets_X7_refuses : GoodIn wsX7_sets (wsV RX7 65 RX7 yX7_refuses wsX7_refuses) := goodIn_app (goodIn_of _ (by decide +kernel)) ggX7_sets_X7_refuses
set_option maxRecDepth 20000 in
theorem ggX7_sets_X7_aside : GoodIn wsX7_sets wsX7_aside := goodIn_r _ [17, 18, 1, 33, 34, 35, 36, 37, 38, 39, 40, 41, 42, 43, 44, 45, 46, 47, 48, 49] (by decide +kernel) (by decide +kernel)
set_option maxRecDepth 20000 in
theorem gX7_sets_X7_aside : GoodIn wsX7_sets (wsV RX7 68 RX7 yX7_aside wsX7_aside) := goodIn_app (goodIn_of _ (by decide +kernel)) ggX7_sets_X7_aside
set_option maxRecDepth 20000 in
theorem ggX7_sets_X7_keeps : GoodIn wsX7_sets wsX7_keeps := goodIn_r _ [22, 23, 24, 18, 33, 34, 35, 36, 37, 38, 39, 40, 41, 42, 43, 44, 45, 46, 47, 48, 49] (by decide +kernel) (by decide +kernel)
set_option maxRecDepth 20000 in
theorem gX7_sets_X7_keeps : GoodIn wsX7_sets (wsV RX7 71 RX7 yX7_keeps wsX7_keeps) := goodIn_app (goodIn_of _ (by decide +kernel)) ggX7_sets_X7_keeps
set_option maxRecDepth 20000 in
theorem ggX7_sets_X7_settles : GoodIn wsX7_sets wsX7_settles := goodIn_r _ [28, 1, 29, 30, 31, 4, 32, 33, 34, 35, 36, 37, 38, 39, 40, 41, 42, 43, 44, 45, 46, 47, 48, 49] (by decide +kernel) (by decide +kernel)
set_option maxRecDepth 20000 in
theorem gX7_sets_X7_settles : GoodIn wsX7_sets (wsV RX7 74 RX7 yX7_settles wsX7_settles) := goodIn_app (goodIn_of _ (by decide +kernel)) ggX7_sets_X7_settles
theorem dX7_sets_0 : decode cX7_sets 0 = .ok (.iload_n 1, 1) := by decide +kernel
theorem dX7_sets_1 : decode cX7_sets 1 = .ok (.invokestatic 61, 3) := by decide +kernel
theorem dX7_sets_4 : decode cX7_sets 4 = .ok (.ifCond .eq 39, 3) := by decide +kernel
theorem dX7_sets_7 : decode cX7_sets 7 = .ok (.iload_n 2, 1) := by decide +kernel
theorem dX7_sets_8 : decode cX7_sets 8 = .ok (.iconst 0, 1) := by decide +kernel
theorem dX7_sets_9 : decode cX7_sets 9 = .ok (.iconst 3, 1) := by decide +kernel
theorem dX7_sets_10 : decode cX7_sets 10 = .ok (.invokestatic 49, 3) := by decide +kernel
theorem dX7_sets_13 : decode cX7_sets 13 = .ok (.ifCond .eq 30, 3) := by decide +kernel
theorem dX7_sets_16 : decode cX7_sets 16 = .ok (.iload_n 3, 1) := by decide +kernel
theorem dX7_sets_17 : decode cX7_sets 17 = .ok (.iconst 0, 1) := by decide +kernel
theorem dX7_sets_18 : decode cX7_sets 18 = .ok (.iload_n 2, 1) := by decide +kernel
theorem dX7_sets_19 : decode cX7_sets 19 = .ok (.ifCond .ne 8, 3) := by decide +kernel
theorem dX7_sets_22 : decode cX7_sets 22 = .ok (.bipush 9, 2) := by decide +kernel
theorem dX7_sets_24 : decode cX7_sets 24 = .ok (.goto 13, 3) := by decide +kernel
theorem dX7_sets_27 : decode cX7_sets 27 = .ok (.iload_n 2, 1) := by decide +kernel
theorem dX7_sets_28 : decode cX7_sets 28 = .ok (.iconst 1, 1) := by decide +kernel
theorem dX7_sets_29 : decode cX7_sets 29 = .ok (.if_icmp .ne 7, 3) := by decide +kernel
theorem dX7_sets_32 : decode cX7_sets 32 = .ok (.iconst 1, 1) := by decide +kernel
theorem dX7_sets_33 : decode cX7_sets 33 = .ok (.goto 4, 3) := by decide +kernel
theorem dX7_sets_36 : decode cX7_sets 36 = .ok (.iconst 3, 1) := by decide +kernel
theorem dX7_sets_37 : decode cX7_sets 37 = .ok (.invokestatic 49, 3) := by decide +kernel
theorem dX7_sets_40 : decode cX7_sets 40 = .ok (.ifCond .ne 10, 3) := by decide +kernel
theorem dX7_sets_43 : decode cX7_sets 43 = .ok (.aload_n 0, 1) := by decide +kernel
theorem dX7_sets_44 : decode cX7_sets 44 = .ok (.bipush (-2), 2) := by decide +kernel
theorem dX7_sets_46 : decode cX7_sets 46 = .ok (.invokevirtual 65, 3) := by decide +kernel
theorem dX7_sets_49 : decode cX7_sets 49 = .ok (.ireturn, 1) := by decide +kernel
theorem dX7_sets_50 : decode cX7_sets 50 = .ok (.aload_n 0, 1) := by decide +kernel
theorem dX7_sets_51 : decode cX7_sets 51 = .ok (.invokevirtual 68, 3) := by decide +kernel
theorem dX7_sets_54 : decode cX7_sets 54 = .ok (.aload_n 0, 1) := by decide +kernel
theorem dX7_sets_55 : decode cX7_sets 55 = .ok (.invokevirtual 71, 3) := by decide +kernel
theorem dX7_sets_58 : decode cX7_sets 58 = .ok (.aload_n 0, 1) := by decide +kernel
theorem dX7_sets_59 : decode cX7_sets 59 = .ok (.getfield 7, 3) := by decide +kernel
theorem dX7_sets_62 : decode cX7_sets 62 = .ok (.bipush 80, 2) := by decide +kernel
theorem dX7_sets_64 : decode cX7_sets 64 = .ok (.iload_n 2, 1) := by decide +kernel
theorem dX7_sets_65 : decode cX7_sets 65 = .ok (.imul, 1) := by decide +kernel
theorem dX7_sets_66 : decode cX7_sets 66 = .ok (.iload_n 1, 1) := by decide +kernel
theorem dX7_sets_67 : decode cX7_sets 67 = .ok (.iadd, 1) := by decide +kernel
theorem dX7_sets_68 : decode cX7_sets 68 = .ok (.iaload, 1) := by decide +kernel
theorem dX7_sets_69 : decode cX7_sets 69 = .ok (.istore 4, 2) := by decide +kernel
theorem dX7_sets_71 : decode cX7_sets 71 = .ok (.aload_n 0, 1) := by decide +kernel
theorem dX7_sets_72 : decode cX7_sets 72 = .ok (.getfield 7, 3) := by decide +kernel
theorem dX7_sets_75 : decode cX7_sets 75 = .ok (.bipush 80, 2) := by decide +kernel
theorem dX7_sets_77 : decode cX7_sets 77 = .ok (.iload_n 2, 1) := by decide +kernel
theorem dX7_sets_78 : decode cX7_sets 78 = .ok (.imul, 1) := by decide +kernel
theorem dX7_sets_79 : decode cX7_sets 79 = .ok (.iload_n 1, 1) := by decide +kernel
theorem dX7_sets_80 : decode cX7_sets 80 = .ok (.iadd, 1) := by decide +kernel
theorem dX7_sets_81 : decode cX7_sets 81 = .ok (.iload_n 3, 1) := by decide +kernel
theorem dX7_sets_82 : decode cX7_sets 82 = .ok (.iastore, 1) := by decide +kernel
theorem dX7_sets_83 : decode cX7_sets 83 = .ok (.aload_n 0, 1) := by decide +kernel
theorem dX7_sets_84 : decode cX7_sets 84 = .ok (.invokevirtual 74, 3) := by decide +kernel
theorem dX7_sets_87 : decode cX7_sets 87 = .ok (.iload 4, 2) := by decide +kernel
theorem dX7_sets_89 : decode cX7_sets 89 = .ok (.ireturn, 1) := by decide +kernel
set_option maxRecDepth 20000 in
theorem ggX7_draw_X7_in : GoodIn wsX7_draw wsX7_in := goodIn_r _ [10] (by decide +kernel) (by decide +kernel)
set_option maxRecDepth 20000 in
theorem gX7_draw_X7_in : GoodIn wsX7_draw (va_wsS RX7 49 yX7_in wsX7_in) := goodIn_app (goodIn_of _ (by decide +kernel)) ggX7_draw_X7_in
set_option maxRecDepth 20000 in
theorem ggX7_draw_X7_refuses : GoodIn wsX7_draw wsX7_refuses := goodIn_r _ [14, 15, 27, 28, 29, 30, 31, 32, 33, 34, 35, 36, 37, 38, 39, 40, 41, 42, 43] (by decide +kernel) (by decide +kernel)
set_option maxRecDepth 20000 in
theorem gX7_draw_X7_refuses : GoodIn wsX7_draw (wsV RX7 65 RX7 yX7_refuses wsX7_refuses) := goodIn_app (goodIn_of _ (by decide +kernel)) ggX7_draw_X7_refuses
set_option maxRecDepth 20000 in
theorem ggX7_draw_X7_aside : GoodIn wsX7_draw wsX7_aside := goodIn_r _ [19, 20, 5, 27, 28, 29, 30, 31, 32, 33, 34, 35, 36, 37, 38, 39, 40, 41, 42, 43] (by decide +kernel) (by decide +kernel)
set_option maxRecDepth 20000 in
theorem gX7_draw_X7_aside : GoodIn wsX7_draw (wsV RX7 68 RX7 yX7_aside wsX7_aside) := goodIn_app (goodIn_of _ (by decide +kernel)) ggX7_draw_X7_aside
set_option maxRecDepth 20000 in
theorem ggX7_draw_X7_keeps : GoodIn wsX7_draw wsX7_keeps := goodIn_r _ [24, 25, 26, 20, 27, 28, 29, 30, 31, 32, 33, 34, 35, 36, 37, 38, 39, 40, 41, 42, 43] (by decide +kernel) (by decide +kernel)
set_option maxRecDepth 20000 in
theorem gX7_draw_X7_keeps : GoodIn wsX7_draw (wsV RX7 71 RX7 yX7_keeps wsX7_keeps) := goodIn_app (goodIn_of _ (by decide +kernel)) ggX7_draw_X7_keeps
theorem dX7_draw_0 : decode cX7_draw 0 = .ok (.iload_n 1, 1) := by decide +kernel
theorem dX7_draw_1 : decode cX7_draw 1 = .ok (.iconst 0, 1) := by decide +kernel
theorem dX7_draw_2 : decode cX7_draw 2 = .ok (.ldc 77, 2) := by decide +kernel
theorem dX7_draw_4 : decode cX7_draw 4 = .ok (.invokestatic 49, 3) := by decide +kernel
theorem dX7_draw_7 : decode cX7_draw 7 = .ok (.ifCond .eq 13, 3) := by decide +kernel
theorem dX7_draw_10 : decode cX7_draw 10 = .ok (.iload_n 2, 1) := by decide +kernel
theorem dX7_draw_11 : decode cX7_draw 11 = .ok (.iconst 0, 1) := by decide +kernel
theorem dX7_draw_12 : decode cX7_draw 12 = .ok (.bipush 9, 2) := by decide +kernel
theorem dX7_draw_14 : decode cX7_draw 14 = .ok (.invokestatic 49, 3) := by decide +kernel
theorem dX7_draw_17 : decode cX7_draw 17 = .ok (.ifCond .ne 10, 3) := by decide +kernel
theorem dX7_draw_20 : decode cX7_draw 20 = .ok (.aload_n 0, 1) := by decide +kernel
theorem dX7_draw_21 : decode cX7_draw 21 = .ok (.bipush (-2), 2) := by decide +kernel
theorem dX7_draw_23 : decode cX7_draw 23 = .ok (.invokevirtual 65, 3) := by decide +kernel
theorem dX7_draw_26 : decode cX7_draw 26 = .ok (.ireturn, 1) := by decide +kernel
theorem dX7_draw_27 : decode cX7_draw 27 = .ok (.aload_n 0, 1) := by decide +kernel
theorem dX7_draw_28 : decode cX7_draw 28 = .ok (.invokevirtual 68, 3) := by decide +kernel
theorem dX7_draw_31 : decode cX7_draw 31 = .ok (.aload_n 0, 1) := by decide +kernel
theorem dX7_draw_32 : decode cX7_draw 32 = .ok (.invokevirtual 71, 3) := by decide +kernel
theorem dX7_draw_35 : decode cX7_draw 35 = .ok (.iconst 0, 1) := by decide +kernel
theorem dX7_draw_36 : decode cX7_draw 36 = .ok (.istore_n 3, 1) := by decide +kernel
theorem dX7_draw_37 : decode cX7_draw 37 = .ok (.iload_n 1, 1) := by decide +kernel
theorem dX7_draw_38 : decode cX7_draw 38 = .ok (.i2l, 1) := by decide +kernel
theorem dX7_draw_39 : decode cX7_draw 39 = .ok (.lstore 4, 2) := by decide +kernel
theorem dX7_draw_41 : decode cX7_draw 41 = .ok (.iconst 0, 1) := by decide +kernel
theorem dX7_draw_42 : decode cX7_draw 42 = .ok (.istore 6, 2) := by decide +kernel
theorem dX7_draw_44 : decode cX7_draw 44 = .ok (.iload 6, 2) := by decide +kernel
theorem dX7_draw_46 : decode cX7_draw 46 = .ok (.bipush 80, 2) := by decide +kernel
theorem dX7_draw_48 : decode cX7_draw 48 = .ok (.if_icmp .ge 66, 3) := by decide +kernel
theorem dX7_draw_51 : decode cX7_draw 51 = .ok (.lload 4, 2) := by decide +kernel
theorem dX7_draw_53 : decode cX7_draw 53 = .ok (.ldc2_w 78, 3) := by decide +kernel
theorem dX7_draw_56 : decode cX7_draw 56 = .ok (.lmul, 1) := by decide +kernel
theorem dX7_draw_57 : decode cX7_draw 57 = .ok (.ldc2_w 80, 3) := by decide +kernel
theorem dX7_draw_60 : decode cX7_draw 60 = .ok (.ladd, 1) := by decide +kernel
theorem dX7_draw_61 : decode cX7_draw 61 = .ok (.ldc2_w 82, 3) := by decide +kernel
theorem dX7_draw_64 : decode cX7_draw 64 = .ok (.lrem, 1) := by decide +kernel
theorem dX7_draw_65 : decode cX7_draw 65 = .ok (.lstore 4, 2) := by decide +kernel
theorem dX7_draw_67 : decode cX7_draw 67 = .ok (.aload_n 0, 1) := by decide +kernel
theorem dX7_draw_68 : decode cX7_draw 68 = .ok (.getfield 7, 3) := by decide +kernel
theorem dX7_draw_71 : decode cX7_draw 71 = .ok (.iload 6, 2) := by decide +kernel
theorem dX7_draw_73 : decode cX7_draw 73 = .ok (.lload 4, 2) := by decide +kernel
theorem dX7_draw_75 : decode cX7_draw 75 = .ok (.ldc2_w 84, 3) := by decide +kernel
theorem dX7_draw_78 : decode cX7_draw 78 = .ok (.ldiv, 1) := by decide +kernel
theorem dX7_draw_79 : decode cX7_draw 79 = .ok (.iload_n 2, 1) := by decide +kernel
theorem dX7_draw_80 : decode cX7_draw 80 = .ok (.iconst 1, 1) := by decide +kernel
theorem dX7_draw_81 : decode cX7_draw 81 = .ok (.iadd, 1) := by decide +kernel
theorem dX7_draw_82 : decode cX7_draw 82 = .ok (.i2l, 1) := by decide +kernel
theorem dX7_draw_83 : decode cX7_draw 83 = .ok (.lrem, 1) := by decide +kernel
theorem dX7_draw_84 : decode cX7_draw 84 = .ok (.l2i, 1) := by decide +kernel
theorem dX7_draw_85 : decode cX7_draw 85 = .ok (.iastore, 1) := by decide +kernel
theorem dX7_draw_86 : decode cX7_draw 86 = .ok (.aload_n 0, 1) := by decide +kernel
theorem dX7_draw_87 : decode cX7_draw 87 = .ok (.getfield 7, 3) := by decide +kernel
theorem dX7_draw_90 : decode cX7_draw 90 = .ok (.sipush 320, 3) := by decide +kernel
theorem dX7_draw_93 : decode cX7_draw 93 = .ok (.iload 6, 2) := by decide +kernel
theorem dX7_draw_95 : decode cX7_draw 95 = .ok (.iadd, 1) := by decide +kernel
theorem dX7_draw_96 : decode cX7_draw 96 = .ok (.iconst 0, 1) := by decide +kernel
theorem dX7_draw_97 : decode cX7_draw 97 = .ok (.iastore, 1) := by decide +kernel
theorem dX7_draw_98 : decode cX7_draw 98 = .ok (.iload_n 3, 1) := by decide +kernel
theorem dX7_draw_99 : decode cX7_draw 99 = .ok (.aload_n 0, 1) := by decide +kernel
theorem dX7_draw_100 : decode cX7_draw 100 = .ok (.getfield 7, 3) := by decide +kernel
theorem dX7_draw_103 : decode cX7_draw 103 = .ok (.iload 6, 2) := by decide +kernel
theorem dX7_draw_105 : decode cX7_draw 105 = .ok (.iaload, 1) := by decide +kernel
theorem dX7_draw_106 : decode cX7_draw 106 = .ok (.iadd, 1) := by decide +kernel
theorem dX7_draw_107 : decode cX7_draw 107 = .ok (.istore_n 3, 1) := by decide +kernel
theorem dX7_draw_108 : decode cX7_draw 108 = .ok (.iinc 6 1, 3) := by decide +kernel
theorem dX7_draw_111 : decode cX7_draw 111 = .ok (.goto (-67), 3) := by decide +kernel
theorem dX7_draw_114 : decode cX7_draw 114 = .ok (.iload_n 3, 1) := by decide +kernel
theorem dX7_draw_115 : decode cX7_draw 115 = .ok (.ireturn, 1) := by decide +kernel
theorem dX7_fillOf_0 : decode cX7_fillOf 0 = .ok (.iconst 0, 1) := by decide +kernel
theorem dX7_fillOf_1 : decode cX7_fillOf 1 = .ok (.istore_n 1, 1) := by decide +kernel
theorem dX7_fillOf_2 : decode cX7_fillOf 2 = .ok (.iconst 0, 1) := by decide +kernel
theorem dX7_fillOf_3 : decode cX7_fillOf 3 = .ok (.istore_n 2, 1) := by decide +kernel
theorem dX7_fillOf_4 : decode cX7_fillOf 4 = .ok (.iload_n 2, 1) := by decide +kernel
theorem dX7_fillOf_5 : decode cX7_fillOf 5 = .ok (.bipush 80, 2) := by decide +kernel
theorem dX7_fillOf_7 : decode cX7_fillOf 7 = .ok (.if_icmp .ge 22, 3) := by decide +kernel
theorem dX7_fillOf_10 : decode cX7_fillOf 10 = .ok (.iload_n 1, 1) := by decide +kernel
theorem dX7_fillOf_11 : decode cX7_fillOf 11 = .ok (.aload_n 0, 1) := by decide +kernel
theorem dX7_fillOf_12 : decode cX7_fillOf 12 = .ok (.getfield 7, 3) := by decide +kernel
theorem dX7_fillOf_15 : decode cX7_fillOf 15 = .ok (.sipush 320, 3) := by decide +kernel
theorem dX7_fillOf_18 : decode cX7_fillOf 18 = .ok (.iload_n 2, 1) := by decide +kernel
theorem dX7_fillOf_19 : decode cX7_fillOf 19 = .ok (.iadd, 1) := by decide +kernel
theorem dX7_fillOf_20 : decode cX7_fillOf 20 = .ok (.iaload, 1) := by decide +kernel
theorem dX7_fillOf_21 : decode cX7_fillOf 21 = .ok (.iadd, 1) := by decide +kernel
theorem dX7_fillOf_22 : decode cX7_fillOf 22 = .ok (.istore_n 1, 1) := by decide +kernel
theorem dX7_fillOf_23 : decode cX7_fillOf 23 = .ok (.iinc 2 1, 3) := by decide +kernel
theorem dX7_fillOf_26 : decode cX7_fillOf 26 = .ok (.goto (-22), 3) := by decide +kernel
theorem dX7_fillOf_29 : decode cX7_fillOf 29 = .ok (.iload_n 1, 1) := by decide +kernel
theorem dX7_fillOf_30 : decode cX7_fillOf 30 = .ok (.ireturn, 1) := by decide +kernel
set_option maxRecDepth 20000 in
theorem ggX7_empties_X7_aside : GoodIn wsX7_empties wsX7_aside := goodIn_r _ [6, 7, 1, 18, 19, 20, 21, 22, 23, 24, 25, 26, 27, 28, 29, 30, 31, 32, 33, 34] (by decide +kernel) (by decide +kernel)
set_option maxRecDepth 20000 in
theorem gX7_empties_X7_aside : GoodIn wsX7_empties (wsV RX7 68 RX7 yX7_aside wsX7_aside) := goodIn_app (goodIn_of _ (by decide +kernel)) ggX7_empties_X7_aside
set_option maxRecDepth 20000 in
theorem ggX7_empties_X7_keeps : GoodIn wsX7_empties wsX7_keeps := goodIn_r _ [11, 12, 13, 7, 18, 19, 20, 21, 22, 23, 24, 25, 26, 27, 28, 29, 30, 31, 32, 33, 34] (by decide +kernel) (by decide +kernel)
set_option maxRecDepth 20000 in
theorem gX7_empties_X7_keeps : GoodIn wsX7_empties (wsV RX7 71 RX7 yX7_keeps wsX7_keeps) := goodIn_app (goodIn_of _ (by decide +kernel)) ggX7_empties_X7_keeps
set_option maxRecDepth 20000 in
theorem ggX7_empties_X7_fillOf : GoodIn wsX7_empties wsX7_fillOf := goodIn_r _ [17, 1, 18, 19, 20, 21, 22, 23, 24, 25, 26, 27, 28, 29, 30, 31, 32, 33, 34] (by decide +kernel) (by decide +kernel)
set_option maxRecDepth 20000 in
theorem gX7_empties_X7_fillOf : GoodIn wsX7_empties (wsV RX7 86 RX7 yX7_fillOf wsX7_fillOf) := goodIn_app (goodIn_of _ (by decide +kernel)) ggX7_empties_X7_fillOf
theorem dX7_empties_0 : decode cX7_empties 0 = .ok (.aload_n 0, 1) := by decide +kernel
theorem dX7_empties_1 : decode cX7_empties 1 = .ok (.invokevirtual 68, 3) := by decide +kernel
theorem dX7_empties_4 : decode cX7_empties 4 = .ok (.aload_n 0, 1) := by decide +kernel
theorem dX7_empties_5 : decode cX7_empties 5 = .ok (.invokevirtual 71, 3) := by decide +kernel
theorem dX7_empties_8 : decode cX7_empties 8 = .ok (.aload_n 0, 1) := by decide +kernel
theorem dX7_empties_9 : decode cX7_empties 9 = .ok (.invokevirtual 86, 3) := by decide +kernel
theorem dX7_empties_12 : decode cX7_empties 12 = .ok (.istore_n 1, 1) := by decide +kernel
theorem dX7_empties_13 : decode cX7_empties 13 = .ok (.iconst 0, 1) := by decide +kernel
theorem dX7_empties_14 : decode cX7_empties 14 = .ok (.istore_n 2, 1) := by decide +kernel
theorem dX7_empties_15 : decode cX7_empties 15 = .ok (.iload_n 2, 1) := by decide +kernel
theorem dX7_empties_16 : decode cX7_empties 16 = .ok (.bipush 80, 2) := by decide +kernel
theorem dX7_empties_18 : decode cX7_empties 18 = .ok (.if_icmp .ge 20, 3) := by decide +kernel
theorem dX7_empties_21 : decode cX7_empties 21 = .ok (.aload_n 0, 1) := by decide +kernel
theorem dX7_empties_22 : decode cX7_empties 22 = .ok (.getfield 7, 3) := by decide +kernel
theorem dX7_empties_25 : decode cX7_empties 25 = .ok (.sipush 320, 3) := by decide +kernel
theorem dX7_empties_28 : decode cX7_empties 28 = .ok (.iload_n 2, 1) := by decide +kernel
theorem dX7_empties_29 : decode cX7_empties 29 = .ok (.iadd, 1) := by decide +kernel
theorem dX7_empties_30 : decode cX7_empties 30 = .ok (.iconst 0, 1) := by decide +kernel
theorem dX7_empties_31 : decode cX7_empties 31 = .ok (.iastore, 1) := by decide +kernel
theorem dX7_empties_32 : decode cX7_empties 32 = .ok (.iinc 2 1, 3) := by decide +kernel
theorem dX7_empties_35 : decode cX7_empties 35 = .ok (.goto (-20), 3) := by decide +kernel
theorem dX7_empties_38 : decode cX7_empties 38 = .ok (.iload_n 1, 1) := by decide +kernel
theorem dX7_empties_39 : decode cX7_empties 39 = .ok (.ireturn, 1) := by decide +kernel
set_option maxRecDepth 20000 in
theorem ggX7_rules_X7_in : GoodIn wsX7_rules wsX7_in := goodIn_r _ [5] (by decide +kernel) (by decide +kernel)
set_option maxRecDepth 20000 in
theorem gX7_rules_X7_in : GoodIn wsX7_rules (va_wsS RX7 49 yX7_in wsX7_in) := goodIn_app (goodIn_of _ (by decide +kernel)) ggX7_rules_X7_in
set_option maxRecDepth 20000 in
theorem ggX7_rules_X7_refuses : GoodIn wsX7_rules wsX7_refuses := goodIn_r _ [9, 10, 11, 12, 13, 14, 15, 16, 17, 18, 19, 20, 21, 22, 23, 24, 25, 26, 27] (by decide +kernel) (by decide +kernel)
set_option maxRecDepth 20000 in
theorem gX7_rules_X7_refuses : GoodIn wsX7_rules (wsV RX7 65 RX7 yX7_refuses wsX7_refuses) := goodIn_app (goodIn_of _ (by decide +kernel)) ggX7_rules_X7_refuses
theorem dX7_rules_0 : decode cX7_rules 0 = .ok (.iload_n 1, 1) := by decide +kernel
theorem dX7_rules_1 : decode cX7_rules 1 = .ok (.ifCond .ne 13, 3) := by decide +kernel
theorem dX7_rules_4 : decode cX7_rules 4 = .ok (.iload_n 2, 1) := by decide +kernel
theorem dX7_rules_5 : decode cX7_rules 5 = .ok (.iconst 1, 1) := by decide +kernel
theorem dX7_rules_6 : decode cX7_rules 6 = .ok (.bipush 8, 2) := by decide +kernel
theorem dX7_rules_8 : decode cX7_rules 8 = .ok (.invokestatic 49, 3) := by decide +kernel
theorem dX7_rules_11 : decode cX7_rules 11 = .ok (.goto 79, 3) := by decide +kernel
theorem dX7_rules_14 : decode cX7_rules 14 = .ok (.iload_n 1, 1) := by decide +kernel
theorem dX7_rules_15 : decode cX7_rules 15 = .ok (.iconst 1, 1) := by decide +kernel
theorem dX7_rules_16 : decode cX7_rules 16 = .ok (.if_icmp .ne 13, 3) := by decide +kernel
theorem dX7_rules_19 : decode cX7_rules 19 = .ok (.iload_n 2, 1) := by decide +kernel
theorem dX7_rules_20 : decode cX7_rules 20 = .ok (.iconst 1, 1) := by decide +kernel
theorem dX7_rules_21 : decode cX7_rules 21 = .ok (.bipush 10, 2) := by decide +kernel
theorem dX7_rules_23 : decode cX7_rules 23 = .ok (.invokestatic 49, 3) := by decide +kernel
theorem dX7_rules_26 : decode cX7_rules 26 = .ok (.goto 64, 3) := by decide +kernel
theorem dX7_rules_29 : decode cX7_rules 29 = .ok (.iload_n 1, 1) := by decide +kernel
theorem dX7_rules_30 : decode cX7_rules 30 = .ok (.iconst 2, 1) := by decide +kernel
theorem dX7_rules_31 : decode cX7_rules 31 = .ok (.if_icmp .eq 8, 3) := by decide +kernel
theorem dX7_rules_34 : decode cX7_rules 34 = .ok (.iload_n 1, 1) := by decide +kernel
theorem dX7_rules_35 : decode cX7_rules 35 = .ok (.iconst 3, 1) := by decide +kernel
theorem dX7_rules_36 : decode cX7_rules 36 = .ok (.if_icmp .ne 14, 3) := by decide +kernel
theorem dX7_rules_39 : decode cX7_rules 39 = .ok (.iload_n 2, 1) := by decide +kernel
theorem dX7_rules_40 : decode cX7_rules 40 = .ok (.iconst 0, 1) := by decide +kernel
theorem dX7_rules_41 : decode cX7_rules 41 = .ok (.sipush 720, 3) := by decide +kernel
theorem dX7_rules_44 : decode cX7_rules 44 = .ok (.invokestatic 49, 3) := by decide +kernel
theorem dX7_rules_47 : decode cX7_rules 47 = .ok (.goto 43, 3) := by decide +kernel
theorem dX7_rules_50 : decode cX7_rules 50 = .ok (.iload_n 1, 1) := by decide +kernel
theorem dX7_rules_51 : decode cX7_rules 51 = .ok (.bipush 7, 2) := by decide +kernel
theorem dX7_rules_53 : decode cX7_rules 53 = .ok (.if_icmp .ne 12, 3) := by decide +kernel
theorem dX7_rules_56 : decode cX7_rules 56 = .ok (.iload_n 2, 1) := by decide +kernel
theorem dX7_rules_57 : decode cX7_rules 57 = .ok (.iconst 0, 1) := by decide +kernel
theorem dX7_rules_58 : decode cX7_rules 58 = .ok (.iconst 4, 1) := by decide +kernel
theorem dX7_rules_59 : decode cX7_rules 59 = .ok (.invokestatic 49, 3) := by decide +kernel
theorem dX7_rules_62 : decode cX7_rules 62 = .ok (.goto 28, 3) := by decide +kernel
theorem dX7_rules_65 : decode cX7_rules 65 = .ok (.iload_n 1, 1) := by decide +kernel
theorem dX7_rules_66 : decode cX7_rules 66 = .ok (.iconst 4, 1) := by decide +kernel
theorem dX7_rules_67 : decode cX7_rules 67 = .ok (.bipush 6, 2) := by decide +kernel
theorem dX7_rules_69 : decode cX7_rules 69 = .ok (.invokestatic 49, 3) := by decide +kernel
theorem dX7_rules_72 : decode cX7_rules 72 = .ok (.ifCond .eq 17, 3) := by decide +kernel
theorem dX7_rules_75 : decode cX7_rules 75 = .ok (.iload_n 2, 1) := by decide +kernel
theorem dX7_rules_76 : decode cX7_rules 76 = .ok (.iconst 0, 1) := by decide +kernel
theorem dX7_rules_77 : decode cX7_rules 77 = .ok (.bipush 99, 2) := by decide +kernel
theorem dX7_rules_79 : decode cX7_rules 79 = .ok (.invokestatic 49, 3) := by decide +kernel
theorem dX7_rules_82 : decode cX7_rules 82 = .ok (.ifCond .eq 7, 3) := by decide +kernel
theorem dX7_rules_85 : decode cX7_rules 85 = .ok (.iconst 1, 1) := by decide +kernel
theorem dX7_rules_86 : decode cX7_rules 86 = .ok (.goto 4, 3) := by decide +kernel
theorem dX7_rules_89 : decode cX7_rules 89 = .ok (.iconst 0, 1) := by decide +kernel
theorem dX7_rules_90 : decode cX7_rules 90 = .ok (.istore_n 3, 1) := by decide +kernel
theorem dX7_rules_91 : decode cX7_rules 91 = .ok (.iload_n 3, 1) := by decide +kernel
theorem dX7_rules_92 : decode cX7_rules 92 = .ok (.ifCond .ne 10, 3) := by decide +kernel
theorem dX7_rules_95 : decode cX7_rules 95 = .ok (.aload_n 0, 1) := by decide +kernel
theorem dX7_rules_96 : decode cX7_rules 96 = .ok (.bipush (-2), 2) := by decide +kernel
theorem dX7_rules_98 : decode cX7_rules 98 = .ok (.invokevirtual 65, 3) := by decide +kernel
theorem dX7_rules_101 : decode cX7_rules 101 = .ok (.ireturn, 1) := by decide +kernel
theorem dX7_rules_102 : decode cX7_rules 102 = .ok (.aload_n 0, 1) := by decide +kernel
theorem dX7_rules_103 : decode cX7_rules 103 = .ok (.getfield 19, 3) := by decide +kernel
theorem dX7_rules_106 : decode cX7_rules 106 = .ok (.iload_n 1, 1) := by decide +kernel
theorem dX7_rules_107 : decode cX7_rules 107 = .ok (.iaload, 1) := by decide +kernel
theorem dX7_rules_108 : decode cX7_rules 108 = .ok (.istore 4, 2) := by decide +kernel
theorem dX7_rules_110 : decode cX7_rules 110 = .ok (.aload_n 0, 1) := by decide +kernel
theorem dX7_rules_111 : decode cX7_rules 111 = .ok (.getfield 19, 3) := by decide +kernel
theorem dX7_rules_114 : decode cX7_rules 114 = .ok (.iload_n 1, 1) := by decide +kernel
theorem dX7_rules_115 : decode cX7_rules 115 = .ok (.iload_n 2, 1) := by decide +kernel
theorem dX7_rules_116 : decode cX7_rules 116 = .ok (.iastore, 1) := by decide +kernel
theorem dX7_rules_117 : decode cX7_rules 117 = .ok (.iload 4, 2) := by decide +kernel
theorem dX7_rules_119 : decode cX7_rules 119 = .ok (.ireturn, 1) := by decide +kernel
set_option maxRecDepth 20000 in
theorem ggX7_has_X7_in : GoodIn wsX7_has wsX7_in := goodIn_r _ [5] (by decide +kernel) (by decide +kernel)
set_option maxRecDepth 20000 in
theorem gX7_has_X7_in : GoodIn wsX7_has (va_wsS RX7 49 yX7_in wsX7_in) := goodIn_app (goodIn_of _ (by decide +kernel)) ggX7_has_X7_in
theorem dX7_has_0 : decode cX7_has 0 = .ok (.iload_n 2, 1) := by decide +kernel
theorem dX7_has_1 : decode cX7_has 1 = .ok (.bipush 10, 2) := by decide +kernel
theorem dX7_has_3 : decode cX7_has 3 = .ok (.idiv, 1) := by decide +kernel
theorem dX7_has_4 : decode cX7_has 4 = .ok (.iload_n 1, 1) := by decide +kernel
theorem dX7_has_5 : decode cX7_has 5 = .ok (.bipush 10, 2) := by decide +kernel
theorem dX7_has_7 : decode cX7_has 7 = .ok (.idiv, 1) := by decide +kernel
theorem dX7_has_8 : decode cX7_has 8 = .ok (.isub, 1) := by decide +kernel
theorem dX7_has_9 : decode cX7_has 9 = .ok (.iconst 0, 1) := by decide +kernel
theorem dX7_has_10 : decode cX7_has 10 = .ok (.aload_n 0, 1) := by decide +kernel
theorem dX7_has_11 : decode cX7_has 11 = .ok (.getfield 19, 3) := by decide +kernel
theorem dX7_has_14 : decode cX7_has 14 = .ok (.iconst 0, 1) := by decide +kernel
theorem dX7_has_15 : decode cX7_has 15 = .ok (.iaload, 1) := by decide +kernel
theorem dX7_has_16 : decode cX7_has 16 = .ok (.iconst 1, 1) := by decide +kernel
theorem dX7_has_17 : decode cX7_has 17 = .ok (.isub, 1) := by decide +kernel
theorem dX7_has_18 : decode cX7_has 18 = .ok (.invokestatic 49, 3) := by decide +kernel
theorem dX7_has_21 : decode cX7_has 21 = .ok (.ifCond .eq 31, 3) := by decide +kernel
theorem dX7_has_24 : decode cX7_has 24 = .ok (.iload_n 2, 1) := by decide +kernel
theorem dX7_has_25 : decode cX7_has 25 = .ok (.bipush 10, 2) := by decide +kernel
theorem dX7_has_27 : decode cX7_has 27 = .ok (.irem, 1) := by decide +kernel
theorem dX7_has_28 : decode cX7_has 28 = .ok (.iload_n 1, 1) := by decide +kernel
theorem dX7_has_29 : decode cX7_has 29 = .ok (.bipush 10, 2) := by decide +kernel
theorem dX7_has_31 : decode cX7_has 31 = .ok (.irem, 1) := by decide +kernel
theorem dX7_has_32 : decode cX7_has 32 = .ok (.isub, 1) := by decide +kernel
theorem dX7_has_33 : decode cX7_has 33 = .ok (.iconst 0, 1) := by decide +kernel
theorem dX7_has_34 : decode cX7_has 34 = .ok (.aload_n 0, 1) := by decide +kernel
theorem dX7_has_35 : decode cX7_has 35 = .ok (.getfield 19, 3) := by decide +kernel
theorem dX7_has_38 : decode cX7_has 38 = .ok (.iconst 1, 1) := by decide +kernel
theorem dX7_has_39 : decode cX7_has 39 = .ok (.iaload, 1) := by decide +kernel
theorem dX7_has_40 : decode cX7_has 40 = .ok (.iconst 1, 1) := by decide +kernel
theorem dX7_has_41 : decode cX7_has 41 = .ok (.isub, 1) := by decide +kernel
theorem dX7_has_42 : decode cX7_has 42 = .ok (.invokestatic 49, 3) := by decide +kernel
theorem dX7_has_45 : decode cX7_has 45 = .ok (.ifCond .eq 7, 3) := by decide +kernel
theorem dX7_has_48 : decode cX7_has 48 = .ok (.iconst 1, 1) := by decide +kernel
theorem dX7_has_49 : decode cX7_has 49 = .ok (.goto 4, 3) := by decide +kernel
theorem dX7_has_52 : decode cX7_has 52 = .ok (.iconst 0, 1) := by decide +kernel
theorem dX7_has_53 : decode cX7_has 53 = .ok (.ireturn, 1) := by decide +kernel
theorem dX7_isWindow_0 : decode cX7_isWindow 0 = .ok (.iload_n 1, 1) := by decide +kernel
theorem dX7_isWindow_1 : decode cX7_isWindow 1 = .ok (.bipush 10, 2) := by decide +kernel
theorem dX7_isWindow_3 : decode cX7_isWindow 3 = .ok (.idiv, 1) := by decide +kernel
theorem dX7_isWindow_4 : decode cX7_isWindow 4 = .ok (.aload_n 0, 1) := by decide +kernel
theorem dX7_isWindow_5 : decode cX7_isWindow 5 = .ok (.getfield 19, 3) := by decide +kernel
theorem dX7_isWindow_8 : decode cX7_isWindow 8 = .ok (.iconst 0, 1) := by decide +kernel
theorem dX7_isWindow_9 : decode cX7_isWindow 9 = .ok (.iaload, 1) := by decide +kernel
theorem dX7_isWindow_10 : decode cX7_isWindow 10 = .ok (.iadd, 1) := by decide +kernel
theorem dX7_isWindow_11 : decode cX7_isWindow 11 = .ok (.bipush 8, 2) := by decide +kernel
theorem dX7_isWindow_13 : decode cX7_isWindow 13 = .ok (.if_icmp .gt 23, 3) := by decide +kernel
theorem dX7_isWindow_16 : decode cX7_isWindow 16 = .ok (.iload_n 1, 1) := by decide +kernel
theorem dX7_isWindow_17 : decode cX7_isWindow 17 = .ok (.bipush 10, 2) := by decide +kernel
theorem dX7_isWindow_19 : decode cX7_isWindow 19 = .ok (.irem, 1) := by decide +kernel
theorem dX7_isWindow_20 : decode cX7_isWindow 20 = .ok (.aload_n 0, 1) := by decide +kernel
theorem dX7_isWindow_21 : decode cX7_isWindow 21 = .ok (.getfield 19, 3) := by decide +kernel
theorem dX7_isWindow_24 : decode cX7_isWindow 24 = .ok (.iconst 1, 1) := by decide +kernel
theorem dX7_isWindow_25 : decode cX7_isWindow 25 = .ok (.iaload, 1) := by decide +kernel
theorem dX7_isWindow_26 : decode cX7_isWindow 26 = .ok (.iadd, 1) := by decide +kernel
theorem dX7_isWindow_27 : decode cX7_isWindow 27 = .ok (.bipush 10, 2) := by decide +kernel
theorem dX7_isWindow_29 : decode cX7_isWindow 29 = .ok (.if_icmp .gt 7, 3) := by decide +kernel
theorem dX7_isWindow_32 : decode cX7_isWindow 32 = .ok (.iconst 1, 1) := by decide +kernel
theorem dX7_isWindow_33 : decode cX7_isWindow 33 = .ok (.goto 4, 3) := by decide +kernel
theorem dX7_isWindow_36 : decode cX7_isWindow 36 = .ok (.iconst 0, 1) := by decide +kernel
theorem dX7_isWindow_37 : decode cX7_isWindow 37 = .ok (.ireturn, 1) := by decide +kernel
set_option maxRecDepth 20000 in
theorem ggX7_laysSums_X7_isWindow : GoodIn wsX7_laysSums wsX7_isWindow := goodIn_r _ [7, 2, 13, 14, 15, 16, 17, 18, 19, 20, 21, 22, 23, 24, 25, 26, 27, 28, 29] (by decide +kernel) (by decide +kernel)
set_option maxRecDepth 20000 in
theorem gX7_laysSums_X7_isWindow : GoodIn wsX7_laysSums (wsV RX7 90 RX7 yX7_isWindow wsX7_isWindow) := goodIn_app (goodIn_of _ (by decide +kernel)) ggX7_laysSums_X7_isWindow
set_option maxRecDepth 20000 in
theorem ggX7_laysSums_X7_sumOf : GoodIn wsX7_laysSums wsX7_sumOf := goodIn_r _ [11, 12, 13, 14, 15, 16, 17, 18, 19, 20, 21, 22, 23, 24, 25, 26, 27, 28, 29] (by decide +kernel) (by decide +kernel)
set_option maxRecDepth 20000 in
theorem gX7_laysSums_X7_sumOf : GoodIn wsX7_laysSums (wsV RX7 57 RX7 yX7_sumOf wsX7_sumOf) := goodIn_app (goodIn_of _ (by decide +kernel)) ggX7_laysSums_X7_sumOf
theorem dX7_laysSums_0 : decode cX7_laysSums 0 = .ok (.iconst 0, 1) := by decide +kernel
theorem dX7_laysSums_1 : decode cX7_laysSums 1 = .ok (.istore_n 1, 1) := by decide +kernel
theorem dX7_laysSums_2 : decode cX7_laysSums 2 = .ok (.iload_n 1, 1) := by decide +kernel
theorem dX7_laysSums_3 : decode cX7_laysSums 3 = .ok (.bipush 80, 2) := by decide +kernel
theorem dX7_laysSums_5 : decode cX7_laysSums 5 = .ok (.if_icmp .ge 88, 3) := by decide +kernel
theorem dX7_laysSums_8 : decode cX7_laysSums 8 = .ok (.aload_n 0, 1) := by decide +kernel
theorem dX7_laysSums_9 : decode cX7_laysSums 9 = .ok (.getfield 28, 3) := by decide +kernel
theorem dX7_laysSums_12 : decode cX7_laysSums 12 = .ok (.iload_n 1, 1) := by decide +kernel
theorem dX7_laysSums_13 : decode cX7_laysSums 13 = .ok (.iconst (-1), 1) := by decide +kernel
theorem dX7_laysSums_14 : decode cX7_laysSums 14 = .ok (.iastore, 1) := by decide +kernel
theorem dX7_laysSums_15 : decode cX7_laysSums 15 = .ok (.aload_n 0, 1) := by decide +kernel
theorem dX7_laysSums_16 : decode cX7_laysSums 16 = .ok (.iload_n 1, 1) := by decide +kernel
theorem dX7_laysSums_17 : decode cX7_laysSums 17 = .ok (.invokevirtual 90, 3) := by decide +kernel
theorem dX7_laysSums_20 : decode cX7_laysSums 20 = .ok (.ifCond .eq 67, 3) := by decide +kernel
theorem dX7_laysSums_23 : decode cX7_laysSums 23 = .ok (.aload_n 0, 1) := by decide +kernel
theorem dX7_laysSums_24 : decode cX7_laysSums 24 = .ok (.getfield 28, 3) := by decide +kernel
theorem dX7_laysSums_27 : decode cX7_laysSums 27 = .ok (.iload_n 1, 1) := by decide +kernel
theorem dX7_laysSums_28 : decode cX7_laysSums 28 = .ok (.iconst 0, 1) := by decide +kernel
theorem dX7_laysSums_29 : decode cX7_laysSums 29 = .ok (.iastore, 1) := by decide +kernel
theorem dX7_laysSums_30 : decode cX7_laysSums 30 = .ok (.iconst 0, 1) := by decide +kernel
theorem dX7_laysSums_31 : decode cX7_laysSums 31 = .ok (.istore_n 2, 1) := by decide +kernel
theorem dX7_laysSums_32 : decode cX7_laysSums 32 = .ok (.iload_n 2, 1) := by decide +kernel
theorem dX7_laysSums_33 : decode cX7_laysSums 33 = .ok (.aload_n 0, 1) := by decide +kernel
theorem dX7_laysSums_34 : decode cX7_laysSums 34 = .ok (.getfield 19, 3) := by decide +kernel
theorem dX7_laysSums_37 : decode cX7_laysSums 37 = .ok (.iconst 0, 1) := by decide +kernel
theorem dX7_laysSums_38 : decode cX7_laysSums 38 = .ok (.iaload, 1) := by decide +kernel
theorem dX7_laysSums_39 : decode cX7_laysSums 39 = .ok (.if_icmp .ge 48, 3) := by decide +kernel
theorem dX7_laysSums_42 : decode cX7_laysSums 42 = .ok (.iconst 0, 1) := by decide +kernel
theorem dX7_laysSums_43 : decode cX7_laysSums 43 = .ok (.istore_n 3, 1) := by decide +kernel
theorem dX7_laysSums_44 : decode cX7_laysSums 44 = .ok (.iload_n 3, 1) := by decide +kernel
theorem dX7_laysSums_45 : decode cX7_laysSums 45 = .ok (.aload_n 0, 1) := by decide +kernel
theorem dX7_laysSums_46 : decode cX7_laysSums 46 = .ok (.getfield 19, 3) := by decide +kernel
theorem dX7_laysSums_49 : decode cX7_laysSums 49 = .ok (.iconst 1, 1) := by decide +kernel
theorem dX7_laysSums_50 : decode cX7_laysSums 50 = .ok (.iaload, 1) := by decide +kernel
theorem dX7_laysSums_51 : decode cX7_laysSums 51 = .ok (.if_icmp .ge 30, 3) := by decide +kernel
theorem dX7_laysSums_54 : decode cX7_laysSums 54 = .ok (.aload_n 0, 1) := by decide +kernel
theorem dX7_laysSums_55 : decode cX7_laysSums 55 = .ok (.getfield 28, 3) := by decide +kernel
theorem dX7_laysSums_58 : decode cX7_laysSums 58 = .ok (.iload_n 1, 1) := by decide +kernel
theorem dX7_laysSums_59 : decode cX7_laysSums 59 = .ok (.dup2, 1) := by decide +kernel
theorem dX7_laysSums_60 : decode cX7_laysSums 60 = .ok (.iaload, 1) := by decide +kernel
theorem dX7_laysSums_61 : decode cX7_laysSums 61 = .ok (.aload_n 0, 1) := by decide +kernel
theorem dX7_laysSums_62 : decode cX7_laysSums 62 = .ok (.iload_n 1, 1) := by decide +kernel
theorem dX7_laysSums_63 : decode cX7_laysSums 63 = .ok (.bipush 10, 2) := by decide +kernel
theorem dX7_laysSums_65 : decode cX7_laysSums 65 = .ok (.iload_n 2, 1) := by decide +kernel
theorem dX7_laysSums_66 : decode cX7_laysSums 66 = .ok (.imul, 1) := by decide +kernel
theorem dX7_laysSums_67 : decode cX7_laysSums 67 = .ok (.iadd, 1) := by decide +kernel
theorem dX7_laysSums_68 : decode cX7_laysSums 68 = .ok (.iload_n 3, 1) := by decide +kernel
theorem dX7_laysSums_69 : decode cX7_laysSums 69 = .ok (.iadd, 1) := by decide +kernel
theorem dX7_laysSums_70 : decode cX7_laysSums 70 = .ok (.invokevirtual 57, 3) := by decide +kernel
theorem dX7_laysSums_73 : decode cX7_laysSums 73 = .ok (.iadd, 1) := by decide +kernel
theorem dX7_laysSums_74 : decode cX7_laysSums 74 = .ok (.iastore, 1) := by decide +kernel
theorem dX7_laysSums_75 : decode cX7_laysSums 75 = .ok (.iinc 3 1, 3) := by decide +kernel
theorem dX7_laysSums_78 : decode cX7_laysSums 78 = .ok (.goto (-34), 3) := by decide +kernel
theorem dX7_laysSums_81 : decode cX7_laysSums 81 = .ok (.iinc 2 1, 3) := by decide +kernel
theorem dX7_laysSums_84 : decode cX7_laysSums 84 = .ok (.goto (-52), 3) := by decide +kernel
theorem dX7_laysSums_87 : decode cX7_laysSums 87 = .ok (.iinc 1 1, 3) := by decide +kernel
theorem dX7_laysSums_90 : decode cX7_laysSums 90 = .ok (.goto (-88), 3) := by decide +kernel
theorem dX7_laysSums_93 : decode cX7_laysSums 93 = .ok (.return_, 1) := by decide +kernel
theorem dX7_isThin_0 : decode cX7_isThin 0 = .ok (.aload_n 0, 1) := by decide +kernel
theorem dX7_isThin_1 : decode cX7_isThin 1 = .ok (.getfield 28, 3) := by decide +kernel
theorem dX7_isThin_4 : decode cX7_isThin 4 = .ok (.iload_n 1, 1) := by decide +kernel
theorem dX7_isThin_5 : decode cX7_isThin 5 = .ok (.iaload, 1) := by decide +kernel
theorem dX7_isThin_6 : decode cX7_isThin 6 = .ok (.ifCond .lt 22, 3) := by decide +kernel
theorem dX7_isThin_9 : decode cX7_isThin 9 = .ok (.aload_n 0, 1) := by decide +kernel
theorem dX7_isThin_10 : decode cX7_isThin 10 = .ok (.getfield 28, 3) := by decide +kernel
theorem dX7_isThin_13 : decode cX7_isThin 13 = .ok (.iload_n 1, 1) := by decide +kernel
theorem dX7_isThin_14 : decode cX7_isThin 14 = .ok (.iaload, 1) := by decide +kernel
theorem dX7_isThin_15 : decode cX7_isThin 15 = .ok (.aload_n 0, 1) := by decide +kernel
theorem dX7_isThin_16 : decode cX7_isThin 16 = .ok (.getfield 19, 3) := by decide +kernel
theorem dX7_isThin_19 : decode cX7_isThin 19 = .ok (.iconst 2, 1) := by decide +kernel
theorem dX7_isThin_20 : decode cX7_isThin 20 = .ok (.iaload, 1) := by decide +kernel
theorem dX7_isThin_21 : decode cX7_isThin 21 = .ok (.if_icmp .ge 7, 3) := by decide +kernel
theorem dX7_isThin_24 : decode cX7_isThin 24 = .ok (.iconst 1, 1) := by decide +kernel
theorem dX7_isThin_25 : decode cX7_isThin 25 = .ok (.goto 4, 3) := by decide +kernel
theorem dX7_isThin_28 : decode cX7_isThin 28 = .ok (.iconst 0, 1) := by decide +kernel
theorem dX7_isThin_29 : decode cX7_isThin 29 = .ok (.ireturn, 1) := by decide +kernel
set_option maxRecDepth 20000 in
theorem ggX7_laysThin_X7_isThin : GoodIn wsX7_laysThin wsX7_isThin := goodIn_r _ [7, 8, 2, 9, 10, 11, 12, 13, 14, 15, 16, 17, 18, 19, 20, 21, 22, 23, 24, 25] (by decide +kernel) (by decide +kernel)
set_option maxRecDepth 20000 in
theorem gX7_laysThin_X7_isThin : GoodIn wsX7_laysThin (wsV RX7 93 RX7 yX7_isThin wsX7_isThin) := goodIn_app (goodIn_of _ (by decide +kernel)) ggX7_laysThin_X7_isThin
theorem dX7_laysThin_0 : decode cX7_laysThin 0 = .ok (.iconst 0, 1) := by decide +kernel
theorem dX7_laysThin_1 : decode cX7_laysThin 1 = .ok (.istore_n 1, 1) := by decide +kernel
theorem dX7_laysThin_2 : decode cX7_laysThin 2 = .ok (.iload_n 1, 1) := by decide +kernel
theorem dX7_laysThin_3 : decode cX7_laysThin 3 = .ok (.bipush 80, 2) := by decide +kernel
theorem dX7_laysThin_5 : decode cX7_laysThin 5 = .ok (.if_icmp .ge 16, 3) := by decide +kernel
theorem dX7_laysThin_8 : decode cX7_laysThin 8 = .ok (.aload_n 0, 1) := by decide +kernel
theorem dX7_laysThin_9 : decode cX7_laysThin 9 = .ok (.getfield 31, 3) := by decide +kernel
theorem dX7_laysThin_12 : decode cX7_laysThin 12 = .ok (.iload_n 1, 1) := by decide +kernel
theorem dX7_laysThin_13 : decode cX7_laysThin 13 = .ok (.iconst 0, 1) := by decide +kernel
theorem dX7_laysThin_14 : decode cX7_laysThin 14 = .ok (.iastore, 1) := by decide +kernel
theorem dX7_laysThin_15 : decode cX7_laysThin 15 = .ok (.iinc 1 1, 3) := by decide +kernel
theorem dX7_laysThin_18 : decode cX7_laysThin 18 = .ok (.goto (-16), 3) := by decide +kernel
theorem dX7_laysThin_21 : decode cX7_laysThin 21 = .ok (.iconst 0, 1) := by decide +kernel
theorem dX7_laysThin_22 : decode cX7_laysThin 22 = .ok (.istore_n 1, 1) := by decide +kernel
theorem dX7_laysThin_23 : decode cX7_laysThin 23 = .ok (.iload_n 1, 1) := by decide +kernel
theorem dX7_laysThin_24 : decode cX7_laysThin 24 = .ok (.bipush 80, 2) := by decide +kernel
theorem dX7_laysThin_26 : decode cX7_laysThin 26 = .ok (.if_icmp .ge 73, 3) := by decide +kernel
theorem dX7_laysThin_29 : decode cX7_laysThin 29 = .ok (.iconst 0, 1) := by decide +kernel
theorem dX7_laysThin_30 : decode cX7_laysThin 30 = .ok (.istore_n 2, 1) := by decide +kernel
theorem dX7_laysThin_31 : decode cX7_laysThin 31 = .ok (.iload_n 2, 1) := by decide +kernel
theorem dX7_laysThin_32 : decode cX7_laysThin 32 = .ok (.aload_n 0, 1) := by decide +kernel
theorem dX7_laysThin_33 : decode cX7_laysThin 33 = .ok (.getfield 19, 3) := by decide +kernel
theorem dX7_laysThin_36 : decode cX7_laysThin 36 = .ok (.iconst 0, 1) := by decide +kernel
theorem dX7_laysThin_37 : decode cX7_laysThin 37 = .ok (.iaload, 1) := by decide +kernel
theorem dX7_laysThin_38 : decode cX7_laysThin 38 = .ok (.aload_n 0, 1) := by decide +kernel
theorem dX7_laysThin_39 : decode cX7_laysThin 39 = .ok (.getfield 19, 3) := by decide +kernel
theorem dX7_laysThin_42 : decode cX7_laysThin 42 = .ok (.iconst 1, 1) := by decide +kernel
theorem dX7_laysThin_43 : decode cX7_laysThin 43 = .ok (.iaload, 1) := by decide +kernel
theorem dX7_laysThin_44 : decode cX7_laysThin 44 = .ok (.imul, 1) := by decide +kernel
theorem dX7_laysThin_45 : decode cX7_laysThin 45 = .ok (.if_icmp .ge 48, 3) := by decide +kernel
theorem dX7_laysThin_48 : decode cX7_laysThin 48 = .ok (.aload_n 0, 1) := by decide +kernel
theorem dX7_laysThin_49 : decode cX7_laysThin 49 = .ok (.iload_n 1, 1) := by decide +kernel
theorem dX7_laysThin_50 : decode cX7_laysThin 50 = .ok (.invokevirtual 93, 3) := by decide +kernel
theorem dX7_laysThin_53 : decode cX7_laysThin 53 = .ok (.ifCond .eq 40, 3) := by decide +kernel
theorem dX7_laysThin_56 : decode cX7_laysThin 56 = .ok (.aload_n 0, 1) := by decide +kernel
theorem dX7_laysThin_57 : decode cX7_laysThin 57 = .ok (.getfield 31, 3) := by decide +kernel
theorem dX7_laysThin_60 : decode cX7_laysThin 60 = .ok (.iload_n 1, 1) := by decide +kernel
theorem dX7_laysThin_61 : decode cX7_laysThin 61 = .ok (.bipush 10, 2) := by decide +kernel
theorem dX7_laysThin_63 : decode cX7_laysThin 63 = .ok (.iload_n 2, 1) := by decide +kernel
theorem dX7_laysThin_64 : decode cX7_laysThin 64 = .ok (.aload_n 0, 1) := by decide +kernel
theorem dX7_laysThin_65 : decode cX7_laysThin 65 = .ok (.getfield 19, 3) := by decide +kernel
theorem dX7_laysThin_68 : decode cX7_laysThin 68 = .ok (.iconst 1, 1) := by decide +kernel
theorem dX7_laysThin_69 : decode cX7_laysThin 69 = .ok (.iaload, 1) := by decide +kernel
theorem dX7_laysThin_70 : decode cX7_laysThin 70 = .ok (.idiv, 1) := by decide +kernel
theorem dX7_laysThin_71 : decode cX7_laysThin 71 = .ok (.imul, 1) := by decide +kernel
theorem dX7_laysThin_72 : decode cX7_laysThin 72 = .ok (.iadd, 1) := by decide +kernel
theorem dX7_laysThin_73 : decode cX7_laysThin 73 = .ok (.iload_n 2, 1) := by decide +kernel
theorem dX7_laysThin_74 : decode cX7_laysThin 74 = .ok (.aload_n 0, 1) := by decide +kernel
theorem dX7_laysThin_75 : decode cX7_laysThin 75 = .ok (.getfield 19, 3) := by decide +kernel
theorem dX7_laysThin_78 : decode cX7_laysThin 78 = .ok (.iconst 1, 1) := by decide +kernel
theorem dX7_laysThin_79 : decode cX7_laysThin 79 = .ok (.iaload, 1) := by decide +kernel
theorem dX7_laysThin_80 : decode cX7_laysThin 80 = .ok (.irem, 1) := by decide +kernel
theorem dX7_laysThin_81 : decode cX7_laysThin 81 = .ok (.iadd, 1) := by decide +kernel
theorem dX7_laysThin_82 : decode cX7_laysThin 82 = .ok (.dup2, 1) := by decide +kernel
theorem dX7_laysThin_83 : decode cX7_laysThin 83 = .ok (.iaload, 1) := by decide +kernel
theorem dX7_laysThin_84 : decode cX7_laysThin 84 = .ok (.iconst 1, 1) := by decide +kernel
theorem dX7_laysThin_85 : decode cX7_laysThin 85 = .ok (.iadd, 1) := by decide +kernel
theorem dX7_laysThin_86 : decode cX7_laysThin 86 = .ok (.iastore, 1) := by decide +kernel
theorem dX7_laysThin_87 : decode cX7_laysThin 87 = .ok (.iinc 2 1, 3) := by decide +kernel
theorem dX7_laysThin_90 : decode cX7_laysThin 90 = .ok (.goto (-59), 3) := by decide +kernel
theorem dX7_laysThin_93 : decode cX7_laysThin 93 = .ok (.iinc 1 1, 3) := by decide +kernel
theorem dX7_laysThin_96 : decode cX7_laysThin 96 = .ok (.goto (-73), 3) := by decide +kernel
theorem dX7_laysThin_99 : decode cX7_laysThin 99 = .ok (.return_, 1) := by decide +kernel
theorem dX7_liesBeside_0 : decode cX7_liesBeside 0 = .ok (.iload_n 1, 1) := by decide +kernel
theorem dX7_liesBeside_1 : decode cX7_liesBeside 1 = .ok (.bipush 10, 2) := by decide +kernel
theorem dX7_liesBeside_3 : decode cX7_liesBeside 3 = .ok (.irem, 1) := by decide +kernel
theorem dX7_liesBeside_4 : decode cX7_liesBeside 4 = .ok (.istore_n 3, 1) := by decide +kernel
theorem dX7_liesBeside_5 : decode cX7_liesBeside 5 = .ok (.iload_n 1, 1) := by decide +kernel
theorem dX7_liesBeside_6 : decode cX7_liesBeside 6 = .ok (.bipush 10, 2) := by decide +kernel
theorem dX7_liesBeside_8 : decode cX7_liesBeside 8 = .ok (.if_icmp .lt 20, 3) := by decide +kernel
theorem dX7_liesBeside_11 : decode cX7_liesBeside 11 = .ok (.aload_n 0, 1) := by decide +kernel
theorem dX7_liesBeside_12 : decode cX7_liesBeside 12 = .ok (.getfield 7, 3) := by decide +kernel
theorem dX7_liesBeside_15 : decode cX7_liesBeside 15 = .ok (.sipush 160, 3) := by decide +kernel
theorem dX7_liesBeside_18 : decode cX7_liesBeside 18 = .ok (.iload_n 1, 1) := by decide +kernel
theorem dX7_liesBeside_19 : decode cX7_liesBeside 19 = .ok (.iadd, 1) := by decide +kernel
theorem dX7_liesBeside_20 : decode cX7_liesBeside 20 = .ok (.bipush 10, 2) := by decide +kernel
theorem dX7_liesBeside_22 : decode cX7_liesBeside 22 = .ok (.isub, 1) := by decide +kernel
theorem dX7_liesBeside_23 : decode cX7_liesBeside 23 = .ok (.iaload, 1) := by decide +kernel
theorem dX7_liesBeside_24 : decode cX7_liesBeside 24 = .ok (.iload_n 2, 1) := by decide +kernel
theorem dX7_liesBeside_25 : decode cX7_liesBeside 25 = .ok (.if_icmp .eq 68, 3) := by decide +kernel
theorem dX7_liesBeside_28 : decode cX7_liesBeside 28 = .ok (.iload_n 1, 1) := by decide +kernel
theorem dX7_liesBeside_29 : decode cX7_liesBeside 29 = .ok (.bipush 70, 2) := by decide +kernel
theorem dX7_liesBeside_31 : decode cX7_liesBeside 31 = .ok (.if_icmp .ge 20, 3) := by decide +kernel
theorem dX7_liesBeside_34 : decode cX7_liesBeside 34 = .ok (.aload_n 0, 1) := by decide +kernel
theorem dX7_liesBeside_35 : decode cX7_liesBeside 35 = .ok (.getfield 7, 3) := by decide +kernel
theorem dX7_liesBeside_38 : decode cX7_liesBeside 38 = .ok (.sipush 160, 3) := by decide +kernel
theorem dX7_liesBeside_41 : decode cX7_liesBeside 41 = .ok (.iload_n 1, 1) := by decide +kernel
theorem dX7_liesBeside_42 : decode cX7_liesBeside 42 = .ok (.iadd, 1) := by decide +kernel
theorem dX7_liesBeside_43 : decode cX7_liesBeside 43 = .ok (.bipush 10, 2) := by decide +kernel
theorem dX7_liesBeside_45 : decode cX7_liesBeside 45 = .ok (.iadd, 1) := by decide +kernel
theorem dX7_liesBeside_46 : decode cX7_liesBeside 46 = .ok (.iaload, 1) := by decide +kernel
theorem dX7_liesBeside_47 : decode cX7_liesBeside 47 = .ok (.iload_n 2, 1) := by decide +kernel
theorem dX7_liesBeside_48 : decode cX7_liesBeside 48 = .ok (.if_icmp .eq 45, 3) := by decide +kernel
theorem dX7_liesBeside_51 : decode cX7_liesBeside 51 = .ok (.iload_n 3, 1) := by decide +kernel
theorem dX7_liesBeside_52 : decode cX7_liesBeside 52 = .ok (.ifCond .le 19, 3) := by decide +kernel
theorem dX7_liesBeside_55 : decode cX7_liesBeside 55 = .ok (.aload_n 0, 1) := by decide +kernel
theorem dX7_liesBeside_56 : decode cX7_liesBeside 56 = .ok (.getfield 7, 3) := by decide +kernel
theorem dX7_liesBeside_59 : decode cX7_liesBeside 59 = .ok (.sipush 160, 3) := by decide +kernel
theorem dX7_liesBeside_62 : decode cX7_liesBeside 62 = .ok (.iload_n 1, 1) := by decide +kernel
theorem dX7_liesBeside_63 : decode cX7_liesBeside 63 = .ok (.iadd, 1) := by decide +kernel
theorem dX7_liesBeside_64 : decode cX7_liesBeside 64 = .ok (.iconst 1, 1) := by decide +kernel
theorem dX7_liesBeside_65 : decode cX7_liesBeside 65 = .ok (.isub, 1) := by decide +kernel
theorem dX7_liesBeside_66 : decode cX7_liesBeside 66 = .ok (.iaload, 1) := by decide +kernel
theorem dX7_liesBeside_67 : decode cX7_liesBeside 67 = .ok (.iload_n 2, 1) := by decide +kernel
theorem dX7_liesBeside_68 : decode cX7_liesBeside 68 = .ok (.if_icmp .eq 25, 3) := by decide +kernel
theorem dX7_liesBeside_71 : decode cX7_liesBeside 71 = .ok (.iload_n 3, 1) := by decide +kernel
theorem dX7_liesBeside_72 : decode cX7_liesBeside 72 = .ok (.bipush 9, 2) := by decide +kernel
theorem dX7_liesBeside_74 : decode cX7_liesBeside 74 = .ok (.if_icmp .ge 23, 3) := by decide +kernel
theorem dX7_liesBeside_77 : decode cX7_liesBeside 77 = .ok (.aload_n 0, 1) := by decide +kernel
theorem dX7_liesBeside_78 : decode cX7_liesBeside 78 = .ok (.getfield 7, 3) := by decide +kernel
theorem dX7_liesBeside_81 : decode cX7_liesBeside 81 = .ok (.sipush 160, 3) := by decide +kernel
theorem dX7_liesBeside_84 : decode cX7_liesBeside 84 = .ok (.iload_n 1, 1) := by decide +kernel
theorem dX7_liesBeside_85 : decode cX7_liesBeside 85 = .ok (.iadd, 1) := by decide +kernel
theorem dX7_liesBeside_86 : decode cX7_liesBeside 86 = .ok (.iconst 1, 1) := by decide +kernel
theorem dX7_liesBeside_87 : decode cX7_liesBeside 87 = .ok (.iadd, 1) := by decide +kernel
theorem dX7_liesBeside_88 : decode cX7_liesBeside 88 = .ok (.iaload, 1) := by decide +kernel
theorem dX7_liesBeside_89 : decode cX7_liesBeside 89 = .ok (.iload_n 2, 1) := by decide +kernel
theorem dX7_liesBeside_90 : decode cX7_liesBeside 90 = .ok (.if_icmp .ne 7, 3) := by decide +kernel
theorem dX7_liesBeside_93 : decode cX7_liesBeside 93 = .ok (.iconst 1, 1) := by decide +kernel
theorem dX7_liesBeside_94 : decode cX7_liesBeside 94 = .ok (.goto 4, 3) := by decide +kernel
theorem dX7_liesBeside_97 : decode cX7_liesBeside 97 = .ok (.iconst 0, 1) := by decide +kernel
theorem dX7_liesBeside_98 : decode cX7_liesBeside 98 = .ok (.ireturn, 1) := by decide +kernel
set_option maxRecDepth 20000 in
theorem ggX7_isBurden_X7_liesBeside : GoodIn wsX7_isBurden wsX7_liesBeside := goodIn_r _ [6, 1, 7, 8, 9, 10, 11, 12, 13, 14, 15, 16, 17, 18, 19, 20, 21, 22, 23] (by decide +kernel) (by decide +kernel)
set_option maxRecDepth 20000 in
theorem gX7_isBurden_X7_liesBeside : GoodIn wsX7_isBurden (wsV RX7 96 RX7 yX7_liesBeside wsX7_liesBeside) := goodIn_app (goodIn_of _ (by decide +kernel)) ggX7_isBurden_X7_liesBeside
theorem dX7_isBurden_0 : decode cX7_isBurden 0 = .ok (.aload_n 0, 1) := by decide +kernel
theorem dX7_isBurden_1 : decode cX7_isBurden 1 = .ok (.getfield 7, 3) := by decide +kernel
theorem dX7_isBurden_4 : decode cX7_isBurden 4 = .ok (.sipush 160, 3) := by decide +kernel
theorem dX7_isBurden_7 : decode cX7_isBurden 7 = .ok (.iload_n 1, 1) := by decide +kernel
theorem dX7_isBurden_8 : decode cX7_isBurden 8 = .ok (.iadd, 1) := by decide +kernel
theorem dX7_isBurden_9 : decode cX7_isBurden 9 = .ok (.iaload, 1) := by decide +kernel
theorem dX7_isBurden_10 : decode cX7_isBurden 10 = .ok (.iload_n 2, 1) := by decide +kernel
theorem dX7_isBurden_11 : decode cX7_isBurden 11 = .ok (.if_icmp .eq 16, 3) := by decide +kernel
theorem dX7_isBurden_14 : decode cX7_isBurden 14 = .ok (.aload_n 0, 1) := by decide +kernel
theorem dX7_isBurden_15 : decode cX7_isBurden 15 = .ok (.iload_n 1, 1) := by decide +kernel
theorem dX7_isBurden_16 : decode cX7_isBurden 16 = .ok (.iload_n 2, 1) := by decide +kernel
theorem dX7_isBurden_17 : decode cX7_isBurden 17 = .ok (.invokevirtual 96, 3) := by decide +kernel
theorem dX7_isBurden_20 : decode cX7_isBurden 20 = .ok (.ifCond .eq 7, 3) := by decide +kernel
theorem dX7_isBurden_23 : decode cX7_isBurden 23 = .ok (.iconst 1, 1) := by decide +kernel
theorem dX7_isBurden_24 : decode cX7_isBurden 24 = .ok (.goto 4, 3) := by decide +kernel
theorem dX7_isBurden_27 : decode cX7_isBurden 27 = .ok (.iconst 0, 1) := by decide +kernel
theorem dX7_isBurden_28 : decode cX7_isBurden 28 = .ok (.ireturn, 1) := by decide +kernel
set_option maxRecDepth 20000 in
theorem ggX7_laysBurdens_X7_isBurden : GoodIn wsX7_laysBurdens wsX7_isBurden := goodIn_r _ [7, 2, 8, 9, 10, 6, 11, 12, 13, 14, 15, 16, 17, 18, 19, 20, 21, 22, 23, 24, 25, 26, 27, 28] (by decide +kernel) (by decide +kernel)
set_option maxRecDepth 20000 in
theorem gX7_laysBurdens_X7_isBurden : GoodIn wsX7_laysBurdens (wsV RX7 100 RX7 yX7_isBurden wsX7_isBurden) := goodIn_app (goodIn_of _ (by decide +kernel)) ggX7_laysBurdens_X7_isBurden
theorem dX7_laysBurdens_0 : decode cX7_laysBurdens 0 = .ok (.iconst 1, 1) := by decide +kernel
theorem dX7_laysBurdens_1 : decode cX7_laysBurdens 1 = .ok (.istore_n 1, 1) := by decide +kernel
theorem dX7_laysBurdens_2 : decode cX7_laysBurdens 2 = .ok (.iload_n 1, 1) := by decide +kernel
theorem dX7_laysBurdens_3 : decode cX7_laysBurdens 3 = .ok (.iconst 4, 1) := by decide +kernel
theorem dX7_laysBurdens_4 : decode cX7_laysBurdens 4 = .ok (.if_icmp .ge 75, 3) := by decide +kernel
theorem dX7_laysBurdens_7 : decode cX7_laysBurdens 7 = .ok (.aload_n 0, 1) := by decide +kernel
theorem dX7_laysBurdens_8 : decode cX7_laysBurdens 8 = .ok (.getfield 40, 3) := by decide +kernel
theorem dX7_laysBurdens_11 : decode cX7_laysBurdens 11 = .ok (.iload_n 1, 1) := by decide +kernel
theorem dX7_laysBurdens_12 : decode cX7_laysBurdens 12 = .ok (.iconst 0, 1) := by decide +kernel
theorem dX7_laysBurdens_13 : decode cX7_laysBurdens 13 = .ok (.iastore, 1) := by decide +kernel
theorem dX7_laysBurdens_14 : decode cX7_laysBurdens 14 = .ok (.iconst 0, 1) := by decide +kernel
theorem dX7_laysBurdens_15 : decode cX7_laysBurdens 15 = .ok (.istore_n 2, 1) := by decide +kernel
theorem dX7_laysBurdens_16 : decode cX7_laysBurdens 16 = .ok (.iload_n 2, 1) := by decide +kernel
theorem dX7_laysBurdens_17 : decode cX7_laysBurdens 17 = .ok (.bipush 80, 2) := by decide +kernel
theorem dX7_laysBurdens_19 : decode cX7_laysBurdens 19 = .ok (.if_icmp .ge 54, 3) := by decide +kernel
theorem dX7_laysBurdens_22 : decode cX7_laysBurdens 22 = .ok (.aload_n 0, 1) := by decide +kernel
theorem dX7_laysBurdens_23 : decode cX7_laysBurdens 23 = .ok (.getfield 40, 3) := by decide +kernel
theorem dX7_laysBurdens_26 : decode cX7_laysBurdens 26 = .ok (.iload_n 1, 1) := by decide +kernel
theorem dX7_laysBurdens_27 : decode cX7_laysBurdens 27 = .ok (.dup2, 1) := by decide +kernel
theorem dX7_laysBurdens_28 : decode cX7_laysBurdens 28 = .ok (.iaload, 1) := by decide +kernel
theorem dX7_laysBurdens_29 : decode cX7_laysBurdens 29 = .ok (.aload_n 0, 1) := by decide +kernel
theorem dX7_laysBurdens_30 : decode cX7_laysBurdens 30 = .ok (.getfield 7, 3) := by decide +kernel
theorem dX7_laysBurdens_33 : decode cX7_laysBurdens 33 = .ok (.sipush 320, 3) := by decide +kernel
theorem dX7_laysBurdens_36 : decode cX7_laysBurdens 36 = .ok (.iload_n 2, 1) := by decide +kernel
theorem dX7_laysBurdens_37 : decode cX7_laysBurdens 37 = .ok (.iadd, 1) := by decide +kernel
theorem dX7_laysBurdens_38 : decode cX7_laysBurdens 38 = .ok (.iaload, 1) := by decide +kernel
theorem dX7_laysBurdens_39 : decode cX7_laysBurdens 39 = .ok (.ifCond .le 25, 3) := by decide +kernel
theorem dX7_laysBurdens_42 : decode cX7_laysBurdens 42 = .ok (.aload_n 0, 1) := by decide +kernel
theorem dX7_laysBurdens_43 : decode cX7_laysBurdens 43 = .ok (.iload_n 2, 1) := by decide +kernel
theorem dX7_laysBurdens_44 : decode cX7_laysBurdens 44 = .ok (.iload_n 1, 1) := by decide +kernel
theorem dX7_laysBurdens_45 : decode cX7_laysBurdens 45 = .ok (.invokevirtual 100, 3) := by decide +kernel
theorem dX7_laysBurdens_48 : decode cX7_laysBurdens 48 = .ok (.ifCond .eq 16, 3) := by decide +kernel
theorem dX7_laysBurdens_51 : decode cX7_laysBurdens 51 = .ok (.aload_n 0, 1) := by decide +kernel
theorem dX7_laysBurdens_52 : decode cX7_laysBurdens 52 = .ok (.getfield 7, 3) := by decide +kernel
theorem dX7_laysBurdens_55 : decode cX7_laysBurdens 55 = .ok (.sipush 320, 3) := by decide +kernel
theorem dX7_laysBurdens_58 : decode cX7_laysBurdens 58 = .ok (.iload_n 2, 1) := by decide +kernel
theorem dX7_laysBurdens_59 : decode cX7_laysBurdens 59 = .ok (.iadd, 1) := by decide +kernel
theorem dX7_laysBurdens_60 : decode cX7_laysBurdens 60 = .ok (.iaload, 1) := by decide +kernel
theorem dX7_laysBurdens_61 : decode cX7_laysBurdens 61 = .ok (.goto 4, 3) := by decide +kernel
theorem dX7_laysBurdens_64 : decode cX7_laysBurdens 64 = .ok (.iconst 0, 1) := by decide +kernel
theorem dX7_laysBurdens_65 : decode cX7_laysBurdens 65 = .ok (.iadd, 1) := by decide +kernel
theorem dX7_laysBurdens_66 : decode cX7_laysBurdens 66 = .ok (.iastore, 1) := by decide +kernel
theorem dX7_laysBurdens_67 : decode cX7_laysBurdens 67 = .ok (.iinc 2 1, 3) := by decide +kernel
theorem dX7_laysBurdens_70 : decode cX7_laysBurdens 70 = .ok (.goto (-54), 3) := by decide +kernel
theorem dX7_laysBurdens_73 : decode cX7_laysBurdens 73 = .ok (.iinc 1 1, 3) := by decide +kernel
theorem dX7_laysBurdens_76 : decode cX7_laysBurdens 76 = .ok (.goto (-74), 3) := by decide +kernel
theorem dX7_laysBurdens_79 : decode cX7_laysBurdens 79 = .ok (.return_, 1) := by decide +kernel
set_option maxRecDepth 20000 in
theorem ggX7_lays_X7_laysSums : GoodIn wsX7_lays wsX7_laysSums := goodIn_r _ [5, 6, 7, 8, 9, 10, 4, 11, 12, 13, 14, 15, 16, 39, 40, 41, 42, 43, 44, 45, 46, 47, 48, 49, 50, 51, 52, 53, 54, 55] (by decide +kernel) (by decide +kernel)
set_option maxRecDepth 20000 in
theorem gX7_lays_X7_laysSums : GoodIn wsX7_lays (wsV RX7 103 RX7 yX7_laysSums wsX7_laysSums) := goodIn_app (goodIn_of _ (by decide +kernel)) ggX7_lays_X7_laysSums
set_option maxRecDepth 20000 in
theorem ggX7_lays_X7_laysThin : GoodIn wsX7_lays wsX7_laysThin := goodIn_r _ [20, 21, 7, 22, 23, 24, 4, 25, 6, 39, 40, 41, 42, 43, 44, 45, 46, 47, 48, 49, 50, 51, 52, 53, 54, 55] (by decide +kernel) (by decide +kernel)
set_option maxRecDepth 20000 in
theorem gX7_lays_X7_laysThin : GoodIn wsX7_lays (wsV RX7 106 RX7 yX7_laysThin wsX7_laysThin) := goodIn_app (goodIn_of _ (by decide +kernel)) ggX7_lays_X7_laysThin
set_option maxRecDepth 20000 in
theorem ggX7_lays_X7_laysBurdens : GoodIn wsX7_lays wsX7_laysBurdens := goodIn_r _ [29, 30, 16, 31, 32, 33, 4, 34, 35, 36, 37, 38, 39, 40, 41, 42, 43, 44, 45, 46, 47, 48, 49, 50, 51, 52, 53, 54, 55] (by decide +kernel) (by decide +kernel)
set_option maxRecDepth 20000 in
theorem gX7_lays_X7_laysBurdens : GoodIn wsX7_lays (wsV RX7 109 RX7 yX7_laysBurdens wsX7_laysBurdens) := goodIn_app (goodIn_of _ (by decide +kernel)) ggX7_lays_X7_laysBurdens
theorem dX7_lays_0 : decode cX7_lays 0 = .ok (.aload_n 0, 1) := by decide +kernel
theorem dX7_lays_1 : decode cX7_lays 1 = .ok (.invokevirtual 103, 3) := by decide +kernel
theorem dX7_lays_4 : decode cX7_lays 4 = .ok (.aload_n 0, 1) := by decide +kernel
theorem dX7_lays_5 : decode cX7_lays 5 = .ok (.invokevirtual 106, 3) := by decide +kernel
theorem dX7_lays_8 : decode cX7_lays 8 = .ok (.aload_n 0, 1) := by decide +kernel
theorem dX7_lays_9 : decode cX7_lays 9 = .ok (.invokevirtual 109, 3) := by decide +kernel
theorem dX7_lays_12 : decode cX7_lays 12 = .ok (.return_, 1) := by decide +kernel
theorem dX7_marks_0 : decode cX7_marks 0 = .ok (.aload_n 0, 1) := by decide +kernel
theorem dX7_marks_1 : decode cX7_marks 1 = .ok (.getfield 7, 3) := by decide +kernel
theorem dX7_marks_4 : decode cX7_marks 4 = .ok (.sipush 240, 3) := by decide +kernel
theorem dX7_marks_7 : decode cX7_marks 7 = .ok (.iload_n 1, 1) := by decide +kernel
theorem dX7_marks_8 : decode cX7_marks 8 = .ok (.iadd, 1) := by decide +kernel
theorem dX7_marks_9 : decode cX7_marks 9 = .ok (.iaload, 1) := by decide +kernel
theorem dX7_marks_10 : decode cX7_marks 10 = .ok (.istore_n 2, 1) := by decide +kernel
theorem dX7_marks_11 : decode cX7_marks 11 = .ok (.aload_n 0, 1) := by decide +kernel
theorem dX7_marks_12 : decode cX7_marks 12 = .ok (.iconst 0, 1) := by decide +kernel
theorem dX7_marks_13 : decode cX7_marks 13 = .ok (.putfield 112, 3) := by decide +kernel
theorem dX7_marks_16 : decode cX7_marks 16 = .ok (.iconst 0, 1) := by decide +kernel
theorem dX7_marks_17 : decode cX7_marks 17 = .ok (.istore_n 3, 1) := by decide +kernel
theorem dX7_marks_18 : decode cX7_marks 18 = .ok (.iload_n 3, 1) := by decide +kernel
theorem dX7_marks_19 : decode cX7_marks 19 = .ok (.bipush 80, 2) := by decide +kernel
theorem dX7_marks_21 : decode cX7_marks 21 = .ok (.if_icmp .ge 66, 3) := by decide +kernel
theorem dX7_marks_24 : decode cX7_marks 24 = .ok (.aload_n 0, 1) := by decide +kernel
theorem dX7_marks_25 : decode cX7_marks 25 = .ok (.getfield 34, 3) := by decide +kernel
theorem dX7_marks_28 : decode cX7_marks 28 = .ok (.iload_n 3, 1) := by decide +kernel
theorem dX7_marks_29 : decode cX7_marks 29 = .ok (.iconst 0, 1) := by decide +kernel
theorem dX7_marks_30 : decode cX7_marks 30 = .ok (.iastore, 1) := by decide +kernel
theorem dX7_marks_31 : decode cX7_marks 31 = .ok (.iload_n 3, 1) := by decide +kernel
theorem dX7_marks_32 : decode cX7_marks 32 = .ok (.iload_n 1, 1) := by decide +kernel
theorem dX7_marks_33 : decode cX7_marks 33 = .ok (.if_icmp .eq 21, 3) := by decide +kernel
theorem dX7_marks_36 : decode cX7_marks 36 = .ok (.iload_n 2, 1) := by decide +kernel
theorem dX7_marks_37 : decode cX7_marks 37 = .ok (.ifCond .le 44, 3) := by decide +kernel
theorem dX7_marks_40 : decode cX7_marks 40 = .ok (.aload_n 0, 1) := by decide +kernel
theorem dX7_marks_41 : decode cX7_marks 41 = .ok (.getfield 7, 3) := by decide +kernel
theorem dX7_marks_44 : decode cX7_marks 44 = .ok (.sipush 240, 3) := by decide +kernel
theorem dX7_marks_47 : decode cX7_marks 47 = .ok (.iload_n 3, 1) := by decide +kernel
theorem dX7_marks_48 : decode cX7_marks 48 = .ok (.iadd, 1) := by decide +kernel
theorem dX7_marks_49 : decode cX7_marks 49 = .ok (.iaload, 1) := by decide +kernel
theorem dX7_marks_50 : decode cX7_marks 50 = .ok (.iload_n 2, 1) := by decide +kernel
theorem dX7_marks_51 : decode cX7_marks 51 = .ok (.if_icmp .ne 30, 3) := by decide +kernel
theorem dX7_marks_54 : decode cX7_marks 54 = .ok (.aload_n 0, 1) := by decide +kernel
theorem dX7_marks_55 : decode cX7_marks 55 = .ok (.getfield 34, 3) := by decide +kernel
theorem dX7_marks_58 : decode cX7_marks 58 = .ok (.iload_n 3, 1) := by decide +kernel
theorem dX7_marks_59 : decode cX7_marks 59 = .ok (.iconst 1, 1) := by decide +kernel
theorem dX7_marks_60 : decode cX7_marks 60 = .ok (.iastore, 1) := by decide +kernel
theorem dX7_marks_61 : decode cX7_marks 61 = .ok (.aload_n 0, 1) := by decide +kernel
theorem dX7_marks_62 : decode cX7_marks 62 = .ok (.getfield 37, 3) := by decide +kernel
theorem dX7_marks_65 : decode cX7_marks 65 = .ok (.aload_n 0, 1) := by decide +kernel
theorem dX7_marks_66 : decode cX7_marks 66 = .ok (.getfield 112, 3) := by decide +kernel
theorem dX7_marks_69 : decode cX7_marks 69 = .ok (.iload_n 3, 1) := by decide +kernel
theorem dX7_marks_70 : decode cX7_marks 70 = .ok (.iastore, 1) := by decide +kernel
theorem dX7_marks_71 : decode cX7_marks 71 = .ok (.aload_n 0, 1) := by decide +kernel
theorem dX7_marks_72 : decode cX7_marks 72 = .ok (.dup, 1) := by decide +kernel
theorem dX7_marks_73 : decode cX7_marks 73 = .ok (.getfield 112, 3) := by decide +kernel
theorem dX7_marks_76 : decode cX7_marks 76 = .ok (.iconst 1, 1) := by decide +kernel
theorem dX7_marks_77 : decode cX7_marks 77 = .ok (.iadd, 1) := by decide +kernel
theorem dX7_marks_78 : decode cX7_marks 78 = .ok (.putfield 112, 3) := by decide +kernel
theorem dX7_marks_81 : decode cX7_marks 81 = .ok (.iinc 3 1, 3) := by decide +kernel
theorem dX7_marks_84 : decode cX7_marks 84 = .ok (.goto (-66), 3) := by decide +kernel
theorem dX7_marks_87 : decode cX7_marks 87 = .ok (.return_, 1) := by decide +kernel
theorem dX7_manyIn_0 : decode cX7_manyIn 0 = .ok (.iconst 0, 1) := by decide +kernel
theorem dX7_manyIn_1 : decode cX7_manyIn 1 = .ok (.istore_n 2, 1) := by decide +kernel
theorem dX7_manyIn_2 : decode cX7_manyIn 2 = .ok (.iconst 0, 1) := by decide +kernel
theorem dX7_manyIn_3 : decode cX7_manyIn 3 = .ok (.istore_n 3, 1) := by decide +kernel
theorem dX7_manyIn_4 : decode cX7_manyIn 4 = .ok (.iload_n 3, 1) := by decide +kernel
theorem dX7_manyIn_5 : decode cX7_manyIn 5 = .ok (.aload_n 0, 1) := by decide +kernel
theorem dX7_manyIn_6 : decode cX7_manyIn 6 = .ok (.getfield 19, 3) := by decide +kernel
theorem dX7_manyIn_9 : decode cX7_manyIn 9 = .ok (.iconst 0, 1) := by decide +kernel
theorem dX7_manyIn_10 : decode cX7_manyIn 10 = .ok (.iaload, 1) := by decide +kernel
theorem dX7_manyIn_11 : decode cX7_manyIn 11 = .ok (.aload_n 0, 1) := by decide +kernel
theorem dX7_manyIn_12 : decode cX7_manyIn 12 = .ok (.getfield 19, 3) := by decide +kernel
theorem dX7_manyIn_15 : decode cX7_manyIn 15 = .ok (.iconst 1, 1) := by decide +kernel
theorem dX7_manyIn_16 : decode cX7_manyIn 16 = .ok (.iaload, 1) := by decide +kernel
theorem dX7_manyIn_17 : decode cX7_manyIn 17 = .ok (.imul, 1) := by decide +kernel
theorem dX7_manyIn_18 : decode cX7_manyIn 18 = .ok (.if_icmp .ge 39, 3) := by decide +kernel
theorem dX7_manyIn_21 : decode cX7_manyIn 21 = .ok (.iload_n 2, 1) := by decide +kernel
theorem dX7_manyIn_22 : decode cX7_manyIn 22 = .ok (.aload_n 0, 1) := by decide +kernel
theorem dX7_manyIn_23 : decode cX7_manyIn 23 = .ok (.getfield 34, 3) := by decide +kernel
theorem dX7_manyIn_26 : decode cX7_manyIn 26 = .ok (.iload_n 1, 1) := by decide +kernel
theorem dX7_manyIn_27 : decode cX7_manyIn 27 = .ok (.bipush 10, 2) := by decide +kernel
theorem dX7_manyIn_29 : decode cX7_manyIn 29 = .ok (.iload_n 3, 1) := by decide +kernel
theorem dX7_manyIn_30 : decode cX7_manyIn 30 = .ok (.aload_n 0, 1) := by decide +kernel
theorem dX7_manyIn_31 : decode cX7_manyIn 31 = .ok (.getfield 19, 3) := by decide +kernel
theorem dX7_manyIn_34 : decode cX7_manyIn 34 = .ok (.iconst 1, 1) := by decide +kernel
theorem dX7_manyIn_35 : decode cX7_manyIn 35 = .ok (.iaload, 1) := by decide +kernel
theorem dX7_manyIn_36 : decode cX7_manyIn 36 = .ok (.idiv, 1) := by decide +kernel
theorem dX7_manyIn_37 : decode cX7_manyIn 37 = .ok (.imul, 1) := by decide +kernel
theorem dX7_manyIn_38 : decode cX7_manyIn 38 = .ok (.iadd, 1) := by decide +kernel
theorem dX7_manyIn_39 : decode cX7_manyIn 39 = .ok (.iload_n 3, 1) := by decide +kernel
theorem dX7_manyIn_40 : decode cX7_manyIn 40 = .ok (.aload_n 0, 1) := by decide +kernel
theorem dX7_manyIn_41 : decode cX7_manyIn 41 = .ok (.getfield 19, 3) := by decide +kernel
theorem dX7_manyIn_44 : decode cX7_manyIn 44 = .ok (.iconst 1, 1) := by decide +kernel
theorem dX7_manyIn_45 : decode cX7_manyIn 45 = .ok (.iaload, 1) := by decide +kernel
theorem dX7_manyIn_46 : decode cX7_manyIn 46 = .ok (.irem, 1) := by decide +kernel
theorem dX7_manyIn_47 : decode cX7_manyIn 47 = .ok (.iadd, 1) := by decide +kernel
theorem dX7_manyIn_48 : decode cX7_manyIn 48 = .ok (.iaload, 1) := by decide +kernel
theorem dX7_manyIn_49 : decode cX7_manyIn 49 = .ok (.iadd, 1) := by decide +kernel
theorem dX7_manyIn_50 : decode cX7_manyIn 50 = .ok (.istore_n 2, 1) := by decide +kernel
theorem dX7_manyIn_51 : decode cX7_manyIn 51 = .ok (.iinc 3 1, 3) := by decide +kernel
theorem dX7_manyIn_54 : decode cX7_manyIn 54 = .ok (.goto (-50), 3) := by decide +kernel
theorem dX7_manyIn_57 : decode cX7_manyIn 57 = .ok (.iload_n 2, 1) := by decide +kernel
theorem dX7_manyIn_58 : decode cX7_manyIn 58 = .ok (.ireturn, 1) := by decide +kernel
set_option maxRecDepth 20000 in
theorem ggX7_may_X7_marks : GoodIn wsX7_may wsX7_marks := goodIn_r _ [12, 6, 2, 13, 3, 30, 31, 32, 33, 34, 35, 36, 37, 38, 39, 40, 41, 42, 43, 44, 45, 46] (by decide +kernel) (by decide +kernel)
set_option maxRecDepth 20000 in
theorem gX7_may_X7_marks : GoodIn wsX7_may (wsV RX7 115 RX7 yX7_marks wsX7_marks) := goodIn_app (goodIn_of _ (by decide +kernel)) ggX7_may_X7_marks
set_option maxRecDepth 20000 in
theorem ggX7_may_X7_isBurden : GoodIn wsX7_may wsX7_isBurden := goodIn_r _ [17, 6, 18, 19, 20, 11, 21, 30, 31, 32, 33, 34, 35, 36, 37, 38, 39, 40, 41, 42, 43, 44, 45, 46] (by decide +kernel) (by decide +kernel)
set_option maxRecDepth 20000 in
theorem gX7_may_X7_isBurden : GoodIn wsX7_may (wsV RX7 100 RX7 yX7_isBurden wsX7_isBurden) := goodIn_app (goodIn_of _ (by decide +kernel)) ggX7_may_X7_isBurden
set_option maxRecDepth 20000 in
theorem ggX7_may_X7_sumOf : GoodIn wsX7_may wsX7_sumOf := goodIn_r _ [25, 6, 30, 31, 32, 33, 34, 35, 36, 37, 38, 39, 40, 41, 42, 43, 44, 45, 46] (by decide +kernel) (by decide +kernel)
set_option maxRecDepth 20000 in
theorem gX7_may_X7_sumOf : GoodIn wsX7_may (wsV RX7 57 RX7 yX7_sumOf wsX7_sumOf) := goodIn_app (goodIn_of _ (by decide +kernel)) ggX7_may_X7_sumOf
set_option maxRecDepth 20000 in
theorem ggX7_may_X7_manyIn : GoodIn wsX7_may wsX7_manyIn := goodIn_r _ [29, 5, 13, 30, 31, 32, 33, 34, 35, 36, 37, 38, 39, 40, 41, 42, 43, 44, 45, 46] (by decide +kernel) (by decide +kernel)
set_option maxRecDepth 20000 in
theorem gX7_may_X7_manyIn : GoodIn wsX7_may (wsV RX7 119 RX7 yX7_manyIn wsX7_manyIn) := goodIn_app (goodIn_of _ (by decide +kernel)) ggX7_may_X7_manyIn
theorem dX7_may_0 : decode cX7_may 0 = .ok (.aload_n 0, 1) := by decide +kernel
theorem dX7_may_1 : decode cX7_may 1 = .ok (.iload_n 1, 1) := by decide +kernel
theorem dX7_may_2 : decode cX7_may 2 = .ok (.invokevirtual 115, 3) := by decide +kernel
theorem dX7_may_5 : decode cX7_may 5 = .ok (.iconst 1, 1) := by decide +kernel
theorem dX7_may_6 : decode cX7_may 6 = .ok (.istore_n 2, 1) := by decide +kernel
theorem dX7_may_7 : decode cX7_may 7 = .ok (.iconst 1, 1) := by decide +kernel
theorem dX7_may_8 : decode cX7_may 8 = .ok (.istore_n 3, 1) := by decide +kernel
theorem dX7_may_9 : decode cX7_may 9 = .ok (.iload_n 3, 1) := by decide +kernel
theorem dX7_may_10 : decode cX7_may 10 = .ok (.iconst 4, 1) := by decide +kernel
theorem dX7_may_11 : decode cX7_may 11 = .ok (.if_icmp .ge 108, 3) := by decide +kernel
theorem dX7_may_14 : decode cX7_may 14 = .ok (.aload_n 0, 1) := by decide +kernel
theorem dX7_may_15 : decode cX7_may 15 = .ok (.getfield 43, 3) := by decide +kernel
theorem dX7_may_18 : decode cX7_may 18 = .ok (.iload_n 3, 1) := by decide +kernel
theorem dX7_may_19 : decode cX7_may 19 = .ok (.iconst 0, 1) := by decide +kernel
theorem dX7_may_20 : decode cX7_may 20 = .ok (.iastore, 1) := by decide +kernel
theorem dX7_may_21 : decode cX7_may 21 = .ok (.iconst 0, 1) := by decide +kernel
theorem dX7_may_22 : decode cX7_may 22 = .ok (.istore 4, 2) := by decide +kernel
theorem dX7_may_24 : decode cX7_may 24 = .ok (.iload 4, 2) := by decide +kernel
theorem dX7_may_26 : decode cX7_may 26 = .ok (.aload_n 0, 1) := by decide +kernel
theorem dX7_may_27 : decode cX7_may 27 = .ok (.getfield 112, 3) := by decide +kernel
theorem dX7_may_30 : decode cX7_may 30 = .ok (.if_icmp .ge 38, 3) := by decide +kernel
theorem dX7_may_33 : decode cX7_may 33 = .ok (.aload_n 0, 1) := by decide +kernel
theorem dX7_may_34 : decode cX7_may 34 = .ok (.getfield 43, 3) := by decide +kernel
theorem dX7_may_37 : decode cX7_may 37 = .ok (.iload_n 3, 1) := by decide +kernel
theorem dX7_may_38 : decode cX7_may 38 = .ok (.dup2, 1) := by decide +kernel
theorem dX7_may_39 : decode cX7_may 39 = .ok (.iaload, 1) := by decide +kernel
theorem dX7_may_40 : decode cX7_may 40 = .ok (.aload_n 0, 1) := by decide +kernel
theorem dX7_may_41 : decode cX7_may 41 = .ok (.aload_n 0, 1) := by decide +kernel
theorem dX7_may_42 : decode cX7_may 42 = .ok (.getfield 37, 3) := by decide +kernel
theorem dX7_may_45 : decode cX7_may 45 = .ok (.iload 4, 2) := by decide +kernel
theorem dX7_may_47 : decode cX7_may 47 = .ok (.iaload, 1) := by decide +kernel
theorem dX7_may_48 : decode cX7_may 48 = .ok (.iload_n 3, 1) := by decide +kernel
theorem dX7_may_49 : decode cX7_may 49 = .ok (.invokevirtual 100, 3) := by decide +kernel
theorem dX7_may_52 : decode cX7_may 52 = .ok (.ifCond .eq 7, 3) := by decide +kernel
theorem dX7_may_55 : decode cX7_may 55 = .ok (.iconst 1, 1) := by decide +kernel
theorem dX7_may_56 : decode cX7_may 56 = .ok (.goto 4, 3) := by decide +kernel
theorem dX7_may_59 : decode cX7_may 59 = .ok (.iconst 0, 1) := by decide +kernel
theorem dX7_may_60 : decode cX7_may 60 = .ok (.iadd, 1) := by decide +kernel
theorem dX7_may_61 : decode cX7_may 61 = .ok (.iastore, 1) := by decide +kernel
theorem dX7_may_62 : decode cX7_may 62 = .ok (.iinc 4 1, 3) := by decide +kernel
theorem dX7_may_65 : decode cX7_may 65 = .ok (.goto (-41), 3) := by decide +kernel
theorem dX7_may_68 : decode cX7_may 68 = .ok (.iload_n 2, 1) := by decide +kernel
theorem dX7_may_69 : decode cX7_may 69 = .ok (.ifCond .eq 42, 3) := by decide +kernel
theorem dX7_may_72 : decode cX7_may 72 = .ok (.aload_n 0, 1) := by decide +kernel
theorem dX7_may_73 : decode cX7_may 73 = .ok (.getfield 43, 3) := by decide +kernel
theorem dX7_may_76 : decode cX7_may 76 = .ok (.iload_n 3, 1) := by decide +kernel
theorem dX7_may_77 : decode cX7_may 77 = .ok (.iaload, 1) := by decide +kernel
theorem dX7_may_78 : decode cX7_may 78 = .ok (.ifCond .eq 29, 3) := by decide +kernel
theorem dX7_may_81 : decode cX7_may 81 = .ok (.aload_n 0, 1) := by decide +kernel
theorem dX7_may_82 : decode cX7_may 82 = .ok (.getfield 40, 3) := by decide +kernel
theorem dX7_may_85 : decode cX7_may 85 = .ok (.iload_n 3, 1) := by decide +kernel
theorem dX7_may_86 : decode cX7_may 86 = .ok (.iaload, 1) := by decide +kernel
theorem dX7_may_87 : decode cX7_may 87 = .ok (.aload_n 0, 1) := by decide +kernel
theorem dX7_may_88 : decode cX7_may 88 = .ok (.getfield 43, 3) := by decide +kernel
theorem dX7_may_91 : decode cX7_may 91 = .ok (.iload_n 3, 1) := by decide +kernel
theorem dX7_may_92 : decode cX7_may 92 = .ok (.iaload, 1) := by decide +kernel
theorem dX7_may_93 : decode cX7_may 93 = .ok (.iadd, 1) := by decide +kernel
theorem dX7_may_94 : decode cX7_may 94 = .ok (.aload_n 0, 1) := by decide +kernel
theorem dX7_may_95 : decode cX7_may 95 = .ok (.getfield 19, 3) := by decide +kernel
theorem dX7_may_98 : decode cX7_may 98 = .ok (.iconst 4, 1) := by decide +kernel
theorem dX7_may_99 : decode cX7_may 99 = .ok (.iload_n 3, 1) := by decide +kernel
theorem dX7_may_100 : decode cX7_may 100 = .ok (.iadd, 1) := by decide +kernel
theorem dX7_may_101 : decode cX7_may 101 = .ok (.iconst 1, 1) := by decide +kernel
theorem dX7_may_102 : decode cX7_may 102 = .ok (.isub, 1) := by decide +kernel
theorem dX7_may_103 : decode cX7_may 103 = .ok (.iaload, 1) := by decide +kernel
theorem dX7_may_104 : decode cX7_may 104 = .ok (.if_icmp .gt 7, 3) := by decide +kernel
theorem dX7_may_107 : decode cX7_may 107 = .ok (.iconst 1, 1) := by decide +kernel
theorem dX7_may_108 : decode cX7_may 108 = .ok (.goto 4, 3) := by decide +kernel
theorem dX7_may_111 : decode cX7_may 111 = .ok (.iconst 0, 1) := by decide +kernel
theorem dX7_may_112 : decode cX7_may 112 = .ok (.istore_n 2, 1) := by decide +kernel
theorem dX7_may_113 : decode cX7_may 113 = .ok (.iinc 3 1, 3) := by decide +kernel
theorem dX7_may_116 : decode cX7_may 116 = .ok (.goto (-107), 3) := by decide +kernel
theorem dX7_may_119 : decode cX7_may 119 = .ok (.iconst 0, 1) := by decide +kernel
theorem dX7_may_120 : decode cX7_may 120 = .ok (.istore_n 3, 1) := by decide +kernel
theorem dX7_may_121 : decode cX7_may 121 = .ok (.iload_n 3, 1) := by decide +kernel
theorem dX7_may_122 : decode cX7_may 122 = .ok (.aload_n 0, 1) := by decide +kernel
theorem dX7_may_123 : decode cX7_may 123 = .ok (.getfield 112, 3) := by decide +kernel
theorem dX7_may_126 : decode cX7_may 126 = .ok (.if_icmp .ge 51, 3) := by decide +kernel
theorem dX7_may_129 : decode cX7_may 129 = .ok (.iload_n 2, 1) := by decide +kernel
theorem dX7_may_130 : decode cX7_may 130 = .ok (.ifCond .eq 47, 3) := by decide +kernel
theorem dX7_may_133 : decode cX7_may 133 = .ok (.aload_n 0, 1) := by decide +kernel
theorem dX7_may_134 : decode cX7_may 134 = .ok (.getfield 7, 3) := by decide +kernel
theorem dX7_may_137 : decode cX7_may 137 = .ok (.bipush 80, 2) := by decide +kernel
theorem dX7_may_139 : decode cX7_may 139 = .ok (.aload_n 0, 1) := by decide +kernel
theorem dX7_may_140 : decode cX7_may 140 = .ok (.getfield 37, 3) := by decide +kernel
theorem dX7_may_143 : decode cX7_may 143 = .ok (.iload_n 3, 1) := by decide +kernel
theorem dX7_may_144 : decode cX7_may 144 = .ok (.iaload, 1) := by decide +kernel
theorem dX7_may_145 : decode cX7_may 145 = .ok (.iadd, 1) := by decide +kernel
theorem dX7_may_146 : decode cX7_may 146 = .ok (.iaload, 1) := by decide +kernel
theorem dX7_may_147 : decode cX7_may 147 = .ok (.ifCond .ne 22, 3) := by decide +kernel
theorem dX7_may_150 : decode cX7_may 150 = .ok (.aload_n 0, 1) := by decide +kernel
theorem dX7_may_151 : decode cX7_may 151 = .ok (.aload_n 0, 1) := by decide +kernel
theorem dX7_may_152 : decode cX7_may 152 = .ok (.getfield 37, 3) := by decide +kernel
theorem dX7_may_155 : decode cX7_may 155 = .ok (.iload_n 3, 1) := by decide +kernel
theorem dX7_may_156 : decode cX7_may 156 = .ok (.iaload, 1) := by decide +kernel
theorem dX7_may_157 : decode cX7_may 157 = .ok (.invokevirtual 57, 3) := by decide +kernel
theorem dX7_may_160 : decode cX7_may 160 = .ok (.bipush 9, 2) := by decide +kernel
theorem dX7_may_162 : decode cX7_may 162 = .ok (.if_icmp .ge 7, 3) := by decide +kernel
theorem dX7_may_165 : decode cX7_may 165 = .ok (.iconst 1, 1) := by decide +kernel
theorem dX7_may_166 : decode cX7_may 166 = .ok (.goto 4, 3) := by decide +kernel
theorem dX7_may_169 : decode cX7_may 169 = .ok (.iconst 0, 1) := by decide +kernel
theorem dX7_may_170 : decode cX7_may 170 = .ok (.istore_n 2, 1) := by decide +kernel
theorem dX7_may_171 : decode cX7_may 171 = .ok (.iinc 3 1, 3) := by decide +kernel
theorem dX7_may_174 : decode cX7_may 174 = .ok (.goto (-53), 3) := by decide +kernel
theorem dX7_may_177 : decode cX7_may 177 = .ok (.iconst 0, 1) := by decide +kernel
theorem dX7_may_178 : decode cX7_may 178 = .ok (.istore_n 3, 1) := by decide +kernel
theorem dX7_may_179 : decode cX7_may 179 = .ok (.iload_n 3, 1) := by decide +kernel
theorem dX7_may_180 : decode cX7_may 180 = .ok (.bipush 80, 2) := by decide +kernel
theorem dX7_may_182 : decode cX7_may 182 = .ok (.if_icmp .ge 87, 3) := by decide +kernel
theorem dX7_may_185 : decode cX7_may 185 = .ok (.iload_n 2, 1) := by decide +kernel
theorem dX7_may_186 : decode cX7_may 186 = .ok (.ifCond .eq 83, 3) := by decide +kernel
theorem dX7_may_189 : decode cX7_may 189 = .ok (.aload_n 0, 1) := by decide +kernel
theorem dX7_may_190 : decode cX7_may 190 = .ok (.getfield 28, 3) := by decide +kernel
theorem dX7_may_193 : decode cX7_may 193 = .ok (.iload_n 3, 1) := by decide +kernel
theorem dX7_may_194 : decode cX7_may 194 = .ok (.iaload, 1) := by decide +kernel
theorem dX7_may_195 : decode cX7_may 195 = .ok (.ifCond .lt 68, 3) := by decide +kernel
theorem dX7_may_198 : decode cX7_may 198 = .ok (.aload_n 0, 1) := by decide +kernel
theorem dX7_may_199 : decode cX7_may 199 = .ok (.getfield 28, 3) := by decide +kernel
theorem dX7_may_202 : decode cX7_may 202 = .ok (.iload_n 3, 1) := by decide +kernel
theorem dX7_may_203 : decode cX7_may 203 = .ok (.iaload, 1) := by decide +kernel
theorem dX7_may_204 : decode cX7_may 204 = .ok (.aload_n 0, 1) := by decide +kernel
theorem dX7_may_205 : decode cX7_may 205 = .ok (.getfield 19, 3) := by decide +kernel
theorem dX7_may_208 : decode cX7_may 208 = .ok (.iconst 0, 1) := by decide +kernel
theorem dX7_may_209 : decode cX7_may 209 = .ok (.iaload, 1) := by decide +kernel
theorem dX7_may_210 : decode cX7_may 210 = .ok (.aload_n 0, 1) := by decide +kernel
theorem dX7_may_211 : decode cX7_may 211 = .ok (.getfield 19, 3) := by decide +kernel
theorem dX7_may_214 : decode cX7_may 214 = .ok (.iconst 1, 1) := by decide +kernel
theorem dX7_may_215 : decode cX7_may 215 = .ok (.iaload, 1) := by decide +kernel
theorem dX7_may_216 : decode cX7_may 216 = .ok (.imul, 1) := by decide +kernel
theorem dX7_may_217 : decode cX7_may 217 = .ok (.iadd, 1) := by decide +kernel
theorem dX7_may_218 : decode cX7_may 218 = .ok (.aload_n 0, 1) := by decide +kernel
theorem dX7_may_219 : decode cX7_may 219 = .ok (.getfield 19, 3) := by decide +kernel
theorem dX7_may_222 : decode cX7_may 222 = .ok (.iconst 3, 1) := by decide +kernel
theorem dX7_may_223 : decode cX7_may 223 = .ok (.iaload, 1) := by decide +kernel
theorem dX7_may_224 : decode cX7_may 224 = .ok (.if_icmp .le 39, 3) := by decide +kernel
theorem dX7_may_227 : decode cX7_may 227 = .ok (.aload_n 0, 1) := by decide +kernel
theorem dX7_may_228 : decode cX7_may 228 = .ok (.iload_n 3, 1) := by decide +kernel
theorem dX7_may_229 : decode cX7_may 229 = .ok (.invokevirtual 119, 3) := by decide +kernel
theorem dX7_may_232 : decode cX7_may 232 = .ok (.istore 4, 2) := by decide +kernel
theorem dX7_may_234 : decode cX7_may 234 = .ok (.iload 4, 2) := by decide +kernel
theorem dX7_may_236 : decode cX7_may 236 = .ok (.ifCond .eq 21, 3) := by decide +kernel
theorem dX7_may_239 : decode cX7_may 239 = .ok (.aload_n 0, 1) := by decide +kernel
theorem dX7_may_240 : decode cX7_may 240 = .ok (.getfield 28, 3) := by decide +kernel
theorem dX7_may_243 : decode cX7_may 243 = .ok (.iload_n 3, 1) := by decide +kernel
theorem dX7_may_244 : decode cX7_may 244 = .ok (.iaload, 1) := by decide +kernel
theorem dX7_may_245 : decode cX7_may 245 = .ok (.iload 4, 2) := by decide +kernel
theorem dX7_may_247 : decode cX7_may 247 = .ok (.iadd, 1) := by decide +kernel
theorem dX7_may_248 : decode cX7_may 248 = .ok (.aload_n 0, 1) := by decide +kernel
theorem dX7_may_249 : decode cX7_may 249 = .ok (.getfield 19, 3) := by decide +kernel
theorem dX7_may_252 : decode cX7_may 252 = .ok (.iconst 3, 1) := by decide +kernel
theorem dX7_may_253 : decode cX7_may 253 = .ok (.iaload, 1) := by decide +kernel
theorem dX7_may_254 : decode cX7_may 254 = .ok (.if_icmp .gt 7, 3) := by decide +kernel
theorem dX7_may_257 : decode cX7_may 257 = .ok (.iconst 1, 1) := by decide +kernel
theorem dX7_may_258 : decode cX7_may 258 = .ok (.goto 4, 3) := by decide +kernel
theorem dX7_may_261 : decode cX7_may 261 = .ok (.iconst 0, 1) := by decide +kernel
theorem dX7_may_262 : decode cX7_may 262 = .ok (.istore_n 2, 1) := by decide +kernel
theorem dX7_may_263 : decode cX7_may 263 = .ok (.iinc 3 1, 3) := by decide +kernel
theorem dX7_may_266 : decode cX7_may 266 = .ok (.goto (-87), 3) := by decide +kernel
theorem dX7_may_269 : decode cX7_may 269 = .ok (.iload_n 2, 1) := by decide +kernel
theorem dX7_may_270 : decode cX7_may 270 = .ok (.ireturn, 1) := by decide +kernel
set_option maxRecDepth 20000 in
theorem ggX7_of_X7_isCell : GoodIn wsX7_of wsX7_isCell := goodIn_r _ [6, 7, 8, 5, 9] (by decide +kernel) (by decide +kernel)
set_option maxRecDepth 20000 in
theorem gX7_of_X7_isCell : GoodIn wsX7_of (va_wsS RX7 61 yX7_isCell wsX7_isCell) := goodIn_app (goodIn_of _ (by decide +kernel)) ggX7_of_X7_isCell
set_option maxRecDepth 20000 in
theorem ggX7_of_X7_in : GoodIn wsX7_of wsX7_in := goodIn_r _ [9] (by decide +kernel) (by decide +kernel)
set_option maxRecDepth 20000 in
theorem gX7_of_X7_in : GoodIn wsX7_of (va_wsS RX7 49 yX7_in wsX7_in) := goodIn_app (goodIn_of _ (by decide +kernel)) ggX7_of_X7_in
set_option maxRecDepth 20000 in
theorem ggX7_of_X7_refuses : GoodIn wsX7_of wsX7_refuses := goodIn_r _ [13, 14, 70, 71, 72, 73, 74, 75, 76, 77, 78, 79, 80, 81, 82, 83, 84, 85, 86] (by decide +kernel) (by decide +kernel)
set_option maxRecDepth 20000 in
theorem gX7_of_X7_refuses : GoodIn wsX7_of (wsV RX7 65 RX7 yX7_refuses wsX7_refuses) := goodIn_app (goodIn_of _ (by decide +kernel)) ggX7_of_X7_refuses
set_option maxRecDepth 20000 in
theorem ggX7_of_X7_lays : GoodIn wsX7_of wsX7_lays := goodIn_r _ [18, 19, 20, 21, 5, 22, 23, 24, 25, 26, 27, 28, 29, 30, 31, 32, 1, 33, 34, 35, 36, 2, 37, 38, 39, 40, 41, 42, 43, 44, 45, 46, 47, 48, 49, 50, 51, 52, 53, 70, 71, 72, 73, 74, 75, 76, 77, 78, 79, 80, 81, 82, 83, 84, 85, 86] (by decide +kernel) (by decide +kernel)
set_option maxRecDepth 20000 in
theorem gX7_of_X7_lays : GoodIn wsX7_of (wsV RX7 122 RX7 yX7_lays wsX7_lays) := goodIn_app (goodIn_of _ (by decide +kernel)) ggX7_of_X7_lays
set_option maxRecDepth 20000 in
theorem ggX7_of_X7_may : GoodIn wsX7_of wsX7_may := goodIn_r _ [57, 58, 59, 60, 45, 24, 1, 23, 61, 62, 63, 5, 64, 65, 46, 47, 48, 49, 50, 51, 52, 53, 29, 30, 31, 32, 66, 67, 68, 69, 70, 71, 72, 73, 74, 75, 76, 77, 78, 79, 80, 81, 82, 83, 84, 85, 86] (by decide +kernel) (by decide +kernel)
set_option maxRecDepth 20000 in
theorem gX7_of_X7_may : GoodIn wsX7_of (wsV RX7 125 RX7 yX7_may wsX7_may) := goodIn_app (goodIn_of _ (by decide +kernel)) ggX7_of_X7_may
theorem dX7_of_0 : decode cX7_of 0 = .ok (.iload_n 1, 1) := by decide +kernel
theorem dX7_of_1 : decode cX7_of 1 = .ok (.invokestatic 61, 3) := by decide +kernel
theorem dX7_of_4 : decode cX7_of 4 = .ok (.ifCond .eq 13, 3) := by decide +kernel
theorem dX7_of_7 : decode cX7_of 7 = .ok (.iload_n 2, 1) := by decide +kernel
theorem dX7_of_8 : decode cX7_of 8 = .ok (.iconst 0, 1) := by decide +kernel
theorem dX7_of_9 : decode cX7_of 9 = .ok (.bipush 6, 2) := by decide +kernel
theorem dX7_of_11 : decode cX7_of 11 = .ok (.invokestatic 49, 3) := by decide +kernel
theorem dX7_of_14 : decode cX7_of 14 = .ok (.ifCond .ne 10, 3) := by decide +kernel
theorem dX7_of_17 : decode cX7_of 17 = .ok (.aload_n 0, 1) := by decide +kernel
theorem dX7_of_18 : decode cX7_of 18 = .ok (.bipush (-2), 2) := by decide +kernel
theorem dX7_of_20 : decode cX7_of 20 = .ok (.invokevirtual 65, 3) := by decide +kernel
theorem dX7_of_23 : decode cX7_of 23 = .ok (.ireturn, 1) := by decide +kernel
theorem dX7_of_24 : decode cX7_of 24 = .ok (.iload_n 2, 1) := by decide +kernel
theorem dX7_of_25 : decode cX7_of 25 = .ok (.iconst 5, 1) := by decide +kernel
theorem dX7_of_26 : decode cX7_of 26 = .ok (.if_icmp .ge 15, 3) := by decide +kernel
theorem dX7_of_29 : decode cX7_of 29 = .ok (.aload_n 0, 1) := by decide +kernel
theorem dX7_of_30 : decode cX7_of 30 = .ok (.getfield 7, 3) := by decide +kernel
theorem dX7_of_33 : decode cX7_of 33 = .ok (.bipush 80, 2) := by decide +kernel
theorem dX7_of_35 : decode cX7_of 35 = .ok (.iload_n 2, 1) := by decide +kernel
theorem dX7_of_36 : decode cX7_of 36 = .ok (.imul, 1) := by decide +kernel
theorem dX7_of_37 : decode cX7_of 37 = .ok (.iload_n 1, 1) := by decide +kernel
theorem dX7_of_38 : decode cX7_of 38 = .ok (.iadd, 1) := by decide +kernel
theorem dX7_of_39 : decode cX7_of 39 = .ok (.iaload, 1) := by decide +kernel
theorem dX7_of_40 : decode cX7_of 40 = .ok (.ireturn, 1) := by decide +kernel
theorem dX7_of_41 : decode cX7_of 41 = .ok (.aload_n 0, 1) := by decide +kernel
theorem dX7_of_42 : decode cX7_of 42 = .ok (.invokevirtual 122, 3) := by decide +kernel
theorem dX7_of_45 : decode cX7_of 45 = .ok (.iload_n 2, 1) := by decide +kernel
theorem dX7_of_46 : decode cX7_of 46 = .ok (.iconst 5, 1) := by decide +kernel
theorem dX7_of_47 : decode cX7_of 47 = .ok (.if_icmp .ne 19, 3) := by decide +kernel
theorem dX7_of_50 : decode cX7_of 50 = .ok (.aload_n 0, 1) := by decide +kernel
theorem dX7_of_51 : decode cX7_of 51 = .ok (.iload_n 1, 1) := by decide +kernel
theorem dX7_of_52 : decode cX7_of 52 = .ok (.invokevirtual 125, 3) := by decide +kernel
theorem dX7_of_55 : decode cX7_of 55 = .ok (.ifCond .eq 7, 3) := by decide +kernel
theorem dX7_of_58 : decode cX7_of 58 = .ok (.iconst 1, 1) := by decide +kernel
theorem dX7_of_59 : decode cX7_of 59 = .ok (.goto 13, 3) := by decide +kernel
theorem dX7_of_62 : decode cX7_of 62 = .ok (.iconst 0, 1) := by decide +kernel
theorem dX7_of_63 : decode cX7_of 63 = .ok (.goto 9, 3) := by decide +kernel
theorem dX7_of_66 : decode cX7_of 66 = .ok (.aload_n 0, 1) := by decide +kernel
theorem dX7_of_67 : decode cX7_of 67 = .ok (.getfield 31, 3) := by decide +kernel
theorem dX7_of_70 : decode cX7_of 70 = .ok (.iload_n 1, 1) := by decide +kernel
theorem dX7_of_71 : decode cX7_of 71 = .ok (.iaload, 1) := by decide +kernel
theorem dX7_of_72 : decode cX7_of 72 = .ok (.ireturn, 1) := by decide +kernel
set_option maxRecDepth 20000 in
theorem ggX7_sum_X7_laysSums : GoodIn wsX7_sum wsX7_laysSums := goodIn_r _ [6, 1, 7, 8, 9, 10, 5, 11, 12, 13, 14, 15, 16, 28, 29, 30, 31, 32, 33, 34, 35, 36, 37, 38, 39, 40, 41, 42, 43, 44] (by decide +kernel) (by decide +kernel)
set_option maxRecDepth 20000 in
theorem gX7_sum_X7_laysSums : GoodIn wsX7_sum (wsV RX7 103 RX7 yX7_laysSums wsX7_laysSums) := goodIn_app (goodIn_of _ (by decide +kernel)) ggX7_sum_X7_laysSums
set_option maxRecDepth 20000 in
theorem ggX7_sum_X7_isCell : GoodIn wsX7_sum wsX7_isCell := goodIn_r _ [19, 20, 21, 5, 22] (by decide +kernel) (by decide +kernel)
set_option maxRecDepth 20000 in
theorem gX7_sum_X7_isCell : GoodIn wsX7_sum (va_wsS RX7 61 yX7_isCell wsX7_isCell) := goodIn_app (goodIn_of _ (by decide +kernel)) ggX7_sum_X7_isCell
set_option maxRecDepth 20000 in
theorem ggX7_sum_X7_refuses : GoodIn wsX7_sum wsX7_refuses := goodIn_r _ [26, 27, 28, 29, 30, 31, 32, 33, 34, 35, 36, 37, 38, 39, 40, 41, 42, 43, 44] (by decide +kernel) (by decide +kernel)
set_option maxRecDepth 20000 in
theorem gX7_sum_X7_refuses : GoodIn wsX7_sum (wsV RX7 65 RX7 yX7_refuses wsX7_refuses) := goodIn_app (goodIn_of _ (by decide +kernel)) ggX7_sum_X7_refuses
theorem dX7_sum_0 : decode cX7_sum 0 = .ok (.aload_n 0, 1) := by decide +kernel
theorem dX7_sum_1 : decode cX7_sum 1 = .ok (.invokevirtual 103, 3) := by decide +kernel
theorem dX7_sum_4 : decode cX7_sum 4 = .ok (.iload_n 1, 1) := by decide +kernel
theorem dX7_sum_5 : decode cX7_sum 5 = .ok (.invokestatic 61, 3) := by decide +kernel
theorem dX7_sum_8 : decode cX7_sum 8 = .ok (.ifCond .eq 12, 3) := by decide +kernel
theorem dX7_sum_11 : decode cX7_sum 11 = .ok (.aload_n 0, 1) := by decide +kernel
theorem dX7_sum_12 : decode cX7_sum 12 = .ok (.getfield 28, 3) := by decide +kernel
theorem dX7_sum_15 : decode cX7_sum 15 = .ok (.iload_n 1, 1) := by decide +kernel
theorem dX7_sum_16 : decode cX7_sum 16 = .ok (.iaload, 1) := by decide +kernel
theorem dX7_sum_17 : decode cX7_sum 17 = .ok (.goto 9, 3) := by decide +kernel
theorem dX7_sum_20 : decode cX7_sum 20 = .ok (.aload_n 0, 1) := by decide +kernel
theorem dX7_sum_21 : decode cX7_sum 21 = .ok (.bipush (-2), 2) := by decide +kernel
theorem dX7_sum_23 : decode cX7_sum 23 = .ok (.invokevirtual 65, 3) := by decide +kernel
theorem dX7_sum_26 : decode cX7_sum 26 = .ok (.ireturn, 1) := by decide +kernel
set_option maxRecDepth 20000 in
theorem ggX7_windowsNow_X7_isThin : GoodIn wsX7_windowsNow wsX7_isThin := goodIn_r _ [7, 1, 2, 8, 9, 10, 11, 12, 13, 14, 15, 16, 17, 18, 19, 20, 21, 22, 23, 24] (by decide +kernel) (by decide +kernel)
set_option maxRecDepth 20000 in
theorem gX7_windowsNow_X7_isThin : GoodIn wsX7_windowsNow (wsV RX7 93 RX7 yX7_isThin wsX7_isThin) := goodIn_app (goodIn_of _ (by decide +kernel)) ggX7_windowsNow_X7_isThin
theorem dX7_windowsNow_0 : decode cX7_windowsNow 0 = .ok (.iconst 0, 1) := by decide +kernel
theorem dX7_windowsNow_1 : decode cX7_windowsNow 1 = .ok (.istore_n 2, 1) := by decide +kernel
theorem dX7_windowsNow_2 : decode cX7_windowsNow 2 = .ok (.iconst 0, 1) := by decide +kernel
theorem dX7_windowsNow_3 : decode cX7_windowsNow 3 = .ok (.istore_n 3, 1) := by decide +kernel
theorem dX7_windowsNow_4 : decode cX7_windowsNow 4 = .ok (.iload_n 3, 1) := by decide +kernel
theorem dX7_windowsNow_5 : decode cX7_windowsNow 5 = .ok (.bipush 80, 2) := by decide +kernel
theorem dX7_windowsNow_7 : decode cX7_windowsNow 7 = .ok (.if_icmp .ge 137, 3) := by decide +kernel
theorem dX7_windowsNow_10 : decode cX7_windowsNow 10 = .ok (.aload_n 0, 1) := by decide +kernel
theorem dX7_windowsNow_11 : decode cX7_windowsNow 11 = .ok (.getfield 28, 3) := by decide +kernel
theorem dX7_windowsNow_14 : decode cX7_windowsNow 14 = .ok (.iload_n 3, 1) := by decide +kernel
theorem dX7_windowsNow_15 : decode cX7_windowsNow 15 = .ok (.iaload, 1) := by decide +kernel
theorem dX7_windowsNow_16 : decode cX7_windowsNow 16 = .ok (.ifCond .lt 7, 3) := by decide +kernel
theorem dX7_windowsNow_19 : decode cX7_windowsNow 19 = .ok (.iconst 1, 1) := by decide +kernel
theorem dX7_windowsNow_20 : decode cX7_windowsNow 20 = .ok (.goto 4, 3) := by decide +kernel
theorem dX7_windowsNow_23 : decode cX7_windowsNow 23 = .ok (.iconst 0, 1) := by decide +kernel
theorem dX7_windowsNow_24 : decode cX7_windowsNow 24 = .ok (.istore 4, 2) := by decide +kernel
theorem dX7_windowsNow_26 : decode cX7_windowsNow 26 = .ok (.iconst 0, 1) := by decide +kernel
theorem dX7_windowsNow_27 : decode cX7_windowsNow 27 = .ok (.istore 5, 2) := by decide +kernel
theorem dX7_windowsNow_29 : decode cX7_windowsNow 29 = .ok (.iload 5, 2) := by decide +kernel
theorem dX7_windowsNow_31 : decode cX7_windowsNow 31 = .ok (.iload_n 3, 1) := by decide +kernel
theorem dX7_windowsNow_32 : decode cX7_windowsNow 32 = .ok (.if_icmp .ge 42, 3) := by decide +kernel
theorem dX7_windowsNow_35 : decode cX7_windowsNow 35 = .ok (.iload_n 1, 1) := by decide +kernel
theorem dX7_windowsNow_36 : decode cX7_windowsNow 36 = .ok (.iconst 3, 1) := by decide +kernel
theorem dX7_windowsNow_37 : decode cX7_windowsNow 37 = .ok (.if_icmp .ne 37, 3) := by decide +kernel
theorem dX7_windowsNow_40 : decode cX7_windowsNow 40 = .ok (.iload 4, 2) := by decide +kernel
theorem dX7_windowsNow_42 : decode cX7_windowsNow 42 = .ok (.ifCond .eq 23, 3) := by decide +kernel
theorem dX7_windowsNow_45 : decode cX7_windowsNow 45 = .ok (.aload_n 0, 1) := by decide +kernel
theorem dX7_windowsNow_46 : decode cX7_windowsNow 46 = .ok (.getfield 28, 3) := by decide +kernel
theorem dX7_windowsNow_49 : decode cX7_windowsNow 49 = .ok (.iload 5, 2) := by decide +kernel
theorem dX7_windowsNow_51 : decode cX7_windowsNow 51 = .ok (.iaload, 1) := by decide +kernel
theorem dX7_windowsNow_52 : decode cX7_windowsNow 52 = .ok (.aload_n 0, 1) := by decide +kernel
theorem dX7_windowsNow_53 : decode cX7_windowsNow 53 = .ok (.getfield 28, 3) := by decide +kernel
theorem dX7_windowsNow_56 : decode cX7_windowsNow 56 = .ok (.iload_n 3, 1) := by decide +kernel
theorem dX7_windowsNow_57 : decode cX7_windowsNow 57 = .ok (.iaload, 1) := by decide +kernel
theorem dX7_windowsNow_58 : decode cX7_windowsNow 58 = .ok (.if_icmp .eq 7, 3) := by decide +kernel
theorem dX7_windowsNow_61 : decode cX7_windowsNow 61 = .ok (.iconst 1, 1) := by decide +kernel
theorem dX7_windowsNow_62 : decode cX7_windowsNow 62 = .ok (.goto 4, 3) := by decide +kernel
theorem dX7_windowsNow_65 : decode cX7_windowsNow 65 = .ok (.iconst 0, 1) := by decide +kernel
theorem dX7_windowsNow_66 : decode cX7_windowsNow 66 = .ok (.istore 4, 2) := by decide +kernel
theorem dX7_windowsNow_68 : decode cX7_windowsNow 68 = .ok (.iinc 5 1, 3) := by decide +kernel
theorem dX7_windowsNow_71 : decode cX7_windowsNow 71 = .ok (.goto (-42), 3) := by decide +kernel
theorem dX7_windowsNow_74 : decode cX7_windowsNow 74 = .ok (.iload_n 2, 1) := by decide +kernel
theorem dX7_windowsNow_75 : decode cX7_windowsNow 75 = .ok (.aload_n 0, 1) := by decide +kernel
theorem dX7_windowsNow_76 : decode cX7_windowsNow 76 = .ok (.getfield 28, 3) := by decide +kernel
theorem dX7_windowsNow_79 : decode cX7_windowsNow 79 = .ok (.iload_n 3, 1) := by decide +kernel
theorem dX7_windowsNow_80 : decode cX7_windowsNow 80 = .ok (.iaload, 1) := by decide +kernel
theorem dX7_windowsNow_81 : decode cX7_windowsNow 81 = .ok (.ifCond .lt 54, 3) := by decide +kernel
theorem dX7_windowsNow_84 : decode cX7_windowsNow 84 = .ok (.iload_n 1, 1) := by decide +kernel
theorem dX7_windowsNow_85 : decode cX7_windowsNow 85 = .ok (.ifCond .eq 46, 3) := by decide +kernel
theorem dX7_windowsNow_88 : decode cX7_windowsNow 88 = .ok (.iload_n 1, 1) := by decide +kernel
theorem dX7_windowsNow_89 : decode cX7_windowsNow 89 = .ok (.iconst 1, 1) := by decide +kernel
theorem dX7_windowsNow_90 : decode cX7_windowsNow 90 = .ok (.if_icmp .ne 11, 3) := by decide +kernel
theorem dX7_windowsNow_93 : decode cX7_windowsNow 93 = .ok (.aload_n 0, 1) := by decide +kernel
theorem dX7_windowsNow_94 : decode cX7_windowsNow 94 = .ok (.iload_n 3, 1) := by decide +kernel
theorem dX7_windowsNow_95 : decode cX7_windowsNow 95 = .ok (.invokevirtual 93, 3) := by decide +kernel
theorem dX7_windowsNow_98 : decode cX7_windowsNow 98 = .ok (.ifCond .ne 33, 3) := by decide +kernel
theorem dX7_windowsNow_101 : decode cX7_windowsNow 101 = .ok (.iload_n 1, 1) := by decide +kernel
theorem dX7_windowsNow_102 : decode cX7_windowsNow 102 = .ok (.iconst 2, 1) := by decide +kernel
theorem dX7_windowsNow_103 : decode cX7_windowsNow 103 = .ok (.if_icmp .ne 18, 3) := by decide +kernel
theorem dX7_windowsNow_106 : decode cX7_windowsNow 106 = .ok (.aload_n 0, 1) := by decide +kernel
theorem dX7_windowsNow_107 : decode cX7_windowsNow 107 = .ok (.getfield 28, 3) := by decide +kernel
theorem dX7_windowsNow_110 : decode cX7_windowsNow 110 = .ok (.iload_n 3, 1) := by decide +kernel
theorem dX7_windowsNow_111 : decode cX7_windowsNow 111 = .ok (.iaload, 1) := by decide +kernel
theorem dX7_windowsNow_112 : decode cX7_windowsNow 112 = .ok (.aload_n 0, 1) := by decide +kernel
theorem dX7_windowsNow_113 : decode cX7_windowsNow 113 = .ok (.getfield 19, 3) := by decide +kernel
theorem dX7_windowsNow_116 : decode cX7_windowsNow 116 = .ok (.iconst 3, 1) := by decide +kernel
theorem dX7_windowsNow_117 : decode cX7_windowsNow 117 = .ok (.iaload, 1) := by decide +kernel
theorem dX7_windowsNow_118 : decode cX7_windowsNow 118 = .ok (.if_icmp .gt 13, 3) := by decide +kernel
theorem dX7_windowsNow_121 : decode cX7_windowsNow 121 = .ok (.iload_n 1, 1) := by decide +kernel
theorem dX7_windowsNow_122 : decode cX7_windowsNow 122 = .ok (.iconst 3, 1) := by decide +kernel
theorem dX7_windowsNow_123 : decode cX7_windowsNow 123 = .ok (.if_icmp .ne 12, 3) := by decide +kernel
theorem dX7_windowsNow_126 : decode cX7_windowsNow 126 = .ok (.iload 4, 2) := by decide +kernel
theorem dX7_windowsNow_128 : decode cX7_windowsNow 128 = .ok (.ifCond .eq 7, 3) := by decide +kernel
theorem dX7_windowsNow_131 : decode cX7_windowsNow 131 = .ok (.iconst 1, 1) := by decide +kernel
theorem dX7_windowsNow_132 : decode cX7_windowsNow 132 = .ok (.goto 4, 3) := by decide +kernel
theorem dX7_windowsNow_135 : decode cX7_windowsNow 135 = .ok (.iconst 0, 1) := by decide +kernel
theorem dX7_windowsNow_136 : decode cX7_windowsNow 136 = .ok (.iadd, 1) := by decide +kernel
theorem dX7_windowsNow_137 : decode cX7_windowsNow 137 = .ok (.istore_n 2, 1) := by decide +kernel
theorem dX7_windowsNow_138 : decode cX7_windowsNow 138 = .ok (.iinc 3 1, 3) := by decide +kernel
theorem dX7_windowsNow_141 : decode cX7_windowsNow 141 = .ok (.goto (-137), 3) := by decide +kernel
theorem dX7_windowsNow_144 : decode cX7_windowsNow 144 = .ok (.iload_n 2, 1) := by decide +kernel
theorem dX7_windowsNow_145 : decode cX7_windowsNow 145 = .ok (.ireturn, 1) := by decide +kernel
set_option maxRecDepth 20000 in
theorem ggX7_windows_X7_laysSums : GoodIn wsX7_windows wsX7_laysSums := goodIn_r _ [5, 6, 7, 8, 9, 10, 4, 11, 12, 13, 14, 15, 16, 33, 34, 35, 36, 37, 38, 39, 40, 41, 42, 43, 44, 45, 46, 47, 48, 49] (by decide +kernel) (by decide +kernel)
set_option maxRecDepth 20000 in
theorem gX7_windows_X7_laysSums : GoodIn wsX7_windows (wsV RX7 103 RX7 yX7_laysSums wsX7_laysSums) := goodIn_app (goodIn_of _ (by decide +kernel)) ggX7_windows_X7_laysSums
set_option maxRecDepth 20000 in
theorem ggX7_windows_X7_in : GoodIn wsX7_windows wsX7_in := goodIn_r _ [19] (by decide +kernel) (by decide +kernel)
set_option maxRecDepth 20000 in
theorem gX7_windows_X7_in : GoodIn wsX7_windows (va_wsS RX7 49 yX7_in wsX7_in) := goodIn_app (goodIn_of _ (by decide +kernel)) ggX7_windows_X7_in
set_option maxRecDepth 20000 in
theorem ggX7_windows_X7_windowsNow : GoodIn wsX7_windows wsX7_windowsNow := goodIn_r _ [23, 6, 7, 24, 25, 26, 4, 27, 33, 34, 35, 36, 37, 38, 39, 40, 41, 42, 43, 44, 45, 46, 47, 48, 49] (by decide +kernel) (by decide +kernel)
set_option maxRecDepth 20000 in
theorem gX7_windows_X7_windowsNow : GoodIn wsX7_windows (wsV RX7 128 RX7 yX7_windowsNow wsX7_windowsNow) := goodIn_app (goodIn_of _ (by decide +kernel)) ggX7_windows_X7_windowsNow
set_option maxRecDepth 20000 in
theorem ggX7_windows_X7_refuses : GoodIn wsX7_windows wsX7_refuses := goodIn_r _ [31, 32, 33, 34, 35, 36, 37, 38, 39, 40, 41, 42, 43, 44, 45, 46, 47, 48, 49] (by decide +kernel) (by decide +kernel)
set_option maxRecDepth 20000 in
theorem gX7_windows_X7_refuses : GoodIn wsX7_windows (wsV RX7 65 RX7 yX7_refuses wsX7_refuses) := goodIn_app (goodIn_of _ (by decide +kernel)) ggX7_windows_X7_refuses
theorem dX7_windows_0 : decode cX7_windows 0 = .ok (.aload_n 0, 1) := by decide +kernel
theorem dX7_windows_1 : decode cX7_windows 1 = .ok (.invokevirtual 103, 3) := by decide +kernel
theorem dX7_windows_4 : decode cX7_windows 4 = .ok (.iload_n 1, 1) := by decide +kernel
theorem dX7_windows_5 : decode cX7_windows 5 = .ok (.iconst 0, 1) := by decide +kernel
theorem dX7_windows_6 : decode cX7_windows 6 = .ok (.iconst 3, 1) := by decide +kernel
theorem dX7_windows_7 : decode cX7_windows 7 = .ok (.invokestatic 49, 3) := by decide +kernel
theorem dX7_windows_10 : decode cX7_windows 10 = .ok (.ifCond .eq 11, 3) := by decide +kernel
theorem dX7_windows_13 : decode cX7_windows 13 = .ok (.aload_n 0, 1) := by decide +kernel
theorem dX7_windows_14 : decode cX7_windows 14 = .ok (.iload_n 1, 1) := by decide +kernel
theorem dX7_windows_15 : decode cX7_windows 15 = .ok (.invokevirtual 128, 3) := by decide +kernel
theorem dX7_windows_18 : decode cX7_windows 18 = .ok (.goto 9, 3) := by decide +kernel
theorem dX7_windows_21 : decode cX7_windows 21 = .ok (.aload_n 0, 1) := by decide +kernel
theorem dX7_windows_22 : decode cX7_windows 22 = .ok (.bipush (-2), 2) := by decide +kernel
theorem dX7_windows_24 : decode cX7_windows 24 = .ok (.invokevirtual 65, 3) := by decide +kernel
theorem dX7_windows_27 : decode cX7_windows 27 = .ok (.ireturn, 1) := by decide +kernel
set_option maxRecDepth 20000 in
theorem ggX7_worst_X7_in : GoodIn wsX7_worst wsX7_in := goodIn_r _ [5] (by decide +kernel) (by decide +kernel)
set_option maxRecDepth 20000 in
theorem gX7_worst_X7_in : GoodIn wsX7_worst (va_wsS RX7 49 yX7_in wsX7_in) := goodIn_app (goodIn_of _ (by decide +kernel)) ggX7_worst_X7_in
set_option maxRecDepth 20000 in
theorem ggX7_worst_X7_refuses : GoodIn wsX7_worst wsX7_refuses := goodIn_r _ [9, 10, 25, 26, 27, 28, 29, 30, 31, 32, 33, 34, 35, 36, 37, 38, 39, 40, 41] (by decide +kernel) (by decide +kernel)
set_option maxRecDepth 20000 in
theorem gX7_worst_X7_refuses : GoodIn wsX7_worst (wsV RX7 65 RX7 yX7_refuses wsX7_refuses) := goodIn_app (goodIn_of _ (by decide +kernel)) ggX7_worst_X7_refuses
set_option maxRecDepth 20000 in
theorem ggX7_worst_X7_laysSums : GoodIn wsX7_worst wsX7_laysSums := goodIn_r _ [14, 1, 15, 16, 17, 18, 4, 19, 20, 21, 22, 23, 24, 25, 26, 27, 28, 29, 30, 31, 32, 33, 34, 35, 36, 37, 38, 39, 40, 41] (by decide +kernel) (by decide +kernel)
set_option maxRecDepth 20000 in
theorem gX7_worst_X7_laysSums : GoodIn wsX7_worst (wsV RX7 103 RX7 yX7_laysSums wsX7_laysSums) := goodIn_app (goodIn_of _ (by decide +kernel)) ggX7_worst_X7_laysSums
theorem dX7_worst_0 : decode cX7_worst 0 = .ok (.iload_n 1, 1) := by decide +kernel
theorem dX7_worst_1 : decode cX7_worst 1 = .ok (.iconst 0, 1) := by decide +kernel
theorem dX7_worst_2 : decode cX7_worst 2 = .ok (.iconst 3, 1) := by decide +kernel
theorem dX7_worst_3 : decode cX7_worst 3 = .ok (.invokestatic 49, 3) := by decide +kernel
theorem dX7_worst_6 : decode cX7_worst 6 = .ok (.ifCond .ne 10, 3) := by decide +kernel
theorem dX7_worst_9 : decode cX7_worst 9 = .ok (.aload_n 0, 1) := by decide +kernel
theorem dX7_worst_10 : decode cX7_worst 10 = .ok (.bipush (-2), 2) := by decide +kernel
theorem dX7_worst_12 : decode cX7_worst 12 = .ok (.invokevirtual 65, 3) := by decide +kernel
theorem dX7_worst_15 : decode cX7_worst 15 = .ok (.ireturn, 1) := by decide +kernel
theorem dX7_worst_16 : decode cX7_worst 16 = .ok (.aload_n 0, 1) := by decide +kernel
theorem dX7_worst_17 : decode cX7_worst 17 = .ok (.invokevirtual 103, 3) := by decide +kernel
theorem dX7_worst_20 : decode cX7_worst 20 = .ok (.iconst 0, 1) := by decide +kernel
theorem dX7_worst_21 : decode cX7_worst 21 = .ok (.istore_n 2, 1) := by decide +kernel
theorem dX7_worst_22 : decode cX7_worst 22 = .ok (.iconst 1, 1) := by decide +kernel
theorem dX7_worst_23 : decode cX7_worst 23 = .ok (.istore_n 3, 1) := by decide +kernel
theorem dX7_worst_24 : decode cX7_worst 24 = .ok (.iload_n 3, 1) := by decide +kernel
theorem dX7_worst_25 : decode cX7_worst 25 = .ok (.bipush 80, 2) := by decide +kernel
theorem dX7_worst_27 : decode cX7_worst 27 = .ok (.if_icmp .ge 75, 3) := by decide +kernel
theorem dX7_worst_30 : decode cX7_worst 30 = .ok (.aload_n 0, 1) := by decide +kernel
theorem dX7_worst_31 : decode cX7_worst 31 = .ok (.getfield 28, 3) := by decide +kernel
theorem dX7_worst_34 : decode cX7_worst 34 = .ok (.iload_n 3, 1) := by decide +kernel
theorem dX7_worst_35 : decode cX7_worst 35 = .ok (.iaload, 1) := by decide +kernel
theorem dX7_worst_36 : decode cX7_worst 36 = .ok (.ifCond .lt 46, 3) := by decide +kernel
theorem dX7_worst_39 : decode cX7_worst 39 = .ok (.iload_n 1, 1) := by decide +kernel
theorem dX7_worst_40 : decode cX7_worst 40 = .ok (.iconst 2, 1) := by decide +kernel
theorem dX7_worst_41 : decode cX7_worst 41 = .ok (.irem, 1) := by decide +kernel
theorem dX7_worst_42 : decode cX7_worst 42 = .ok (.ifCond .ne 21, 3) := by decide +kernel
theorem dX7_worst_45 : decode cX7_worst 45 = .ok (.aload_n 0, 1) := by decide +kernel
theorem dX7_worst_46 : decode cX7_worst 46 = .ok (.getfield 28, 3) := by decide +kernel
theorem dX7_worst_49 : decode cX7_worst 49 = .ok (.iload_n 3, 1) := by decide +kernel
theorem dX7_worst_50 : decode cX7_worst 50 = .ok (.iaload, 1) := by decide +kernel
theorem dX7_worst_51 : decode cX7_worst 51 = .ok (.aload_n 0, 1) := by decide +kernel
theorem dX7_worst_52 : decode cX7_worst 52 = .ok (.getfield 28, 3) := by decide +kernel
theorem dX7_worst_55 : decode cX7_worst 55 = .ok (.iload_n 2, 1) := by decide +kernel
theorem dX7_worst_56 : decode cX7_worst 56 = .ok (.iaload, 1) := by decide +kernel
theorem dX7_worst_57 : decode cX7_worst 57 = .ok (.if_icmp .ge 25, 3) := by decide +kernel
theorem dX7_worst_60 : decode cX7_worst 60 = .ok (.goto 18, 3) := by decide +kernel
theorem dX7_worst_63 : decode cX7_worst 63 = .ok (.aload_n 0, 1) := by decide +kernel
theorem dX7_worst_64 : decode cX7_worst 64 = .ok (.getfield 28, 3) := by decide +kernel
theorem dX7_worst_67 : decode cX7_worst 67 = .ok (.iload_n 3, 1) := by decide +kernel
theorem dX7_worst_68 : decode cX7_worst 68 = .ok (.iaload, 1) := by decide +kernel
theorem dX7_worst_69 : decode cX7_worst 69 = .ok (.aload_n 0, 1) := by decide +kernel
theorem dX7_worst_70 : decode cX7_worst 70 = .ok (.getfield 28, 3) := by decide +kernel
theorem dX7_worst_73 : decode cX7_worst 73 = .ok (.iload_n 2, 1) := by decide +kernel
theorem dX7_worst_74 : decode cX7_worst 74 = .ok (.iaload, 1) := by decide +kernel
theorem dX7_worst_75 : decode cX7_worst 75 = .ok (.if_icmp .le 7, 3) := by decide +kernel
theorem dX7_worst_78 : decode cX7_worst 78 = .ok (.iconst 1, 1) := by decide +kernel
theorem dX7_worst_79 : decode cX7_worst 79 = .ok (.goto 4, 3) := by decide +kernel
theorem dX7_worst_82 : decode cX7_worst 82 = .ok (.iconst 0, 1) := by decide +kernel
theorem dX7_worst_83 : decode cX7_worst 83 = .ok (.istore 4, 2) := by decide +kernel
theorem dX7_worst_85 : decode cX7_worst 85 = .ok (.iload 4, 2) := by decide +kernel
theorem dX7_worst_87 : decode cX7_worst 87 = .ok (.ifCond .eq 7, 3) := by decide +kernel
theorem dX7_worst_90 : decode cX7_worst 90 = .ok (.iload_n 3, 1) := by decide +kernel
theorem dX7_worst_91 : decode cX7_worst 91 = .ok (.goto 4, 3) := by decide +kernel
theorem dX7_worst_94 : decode cX7_worst 94 = .ok (.iload_n 2, 1) := by decide +kernel
theorem dX7_worst_95 : decode cX7_worst 95 = .ok (.istore_n 2, 1) := by decide +kernel
theorem dX7_worst_96 : decode cX7_worst 96 = .ok (.iinc 3 1, 3) := by decide +kernel
theorem dX7_worst_99 : decode cX7_worst 99 = .ok (.goto (-75), 3) := by decide +kernel
theorem dX7_worst_102 : decode cX7_worst 102 = .ok (.iload_n 1, 1) := by decide +kernel
theorem dX7_worst_103 : decode cX7_worst 103 = .ok (.iconst 2, 1) := by decide +kernel
theorem dX7_worst_104 : decode cX7_worst 104 = .ok (.if_icmp .ge 7, 3) := by decide +kernel
theorem dX7_worst_107 : decode cX7_worst 107 = .ok (.iload_n 2, 1) := by decide +kernel
theorem dX7_worst_108 : decode cX7_worst 108 = .ok (.goto 9, 3) := by decide +kernel
theorem dX7_worst_111 : decode cX7_worst 111 = .ok (.aload_n 0, 1) := by decide +kernel
theorem dX7_worst_112 : decode cX7_worst 112 = .ok (.getfield 28, 3) := by decide +kernel
theorem dX7_worst_115 : decode cX7_worst 115 = .ok (.iload_n 2, 1) := by decide +kernel
theorem dX7_worst_116 : decode cX7_worst 116 = .ok (.iaload, 1) := by decide +kernel
theorem dX7_worst_117 : decode cX7_worst 117 = .ok (.ireturn, 1) := by decide +kernel
theorem dX7_lessThan_0 : decode cX7_lessThan 0 = .ok (.iconst 0, 1) := by decide +kernel
theorem dX7_lessThan_1 : decode cX7_lessThan 1 = .ok (.istore_n 3, 1) := by decide +kernel
theorem dX7_lessThan_2 : decode cX7_lessThan 2 = .ok (.iconst 0, 1) := by decide +kernel
theorem dX7_lessThan_3 : decode cX7_lessThan 3 = .ok (.istore 4, 2) := by decide +kernel
theorem dX7_lessThan_5 : decode cX7_lessThan 5 = .ok (.iload 4, 2) := by decide +kernel
theorem dX7_lessThan_7 : decode cX7_lessThan 7 = .ok (.bipush 80, 2) := by decide +kernel
theorem dX7_lessThan_9 : decode cX7_lessThan 9 = .ok (.if_icmp .ge 104, 3) := by decide +kernel
theorem dX7_lessThan_12 : decode cX7_lessThan 12 = .ok (.aload_n 0, 1) := by decide +kernel
theorem dX7_lessThan_13 : decode cX7_lessThan 13 = .ok (.getfield 28, 3) := by decide +kernel
theorem dX7_lessThan_16 : decode cX7_lessThan 16 = .ok (.iload 4, 2) := by decide +kernel
theorem dX7_lessThan_18 : decode cX7_lessThan 18 = .ok (.iaload, 1) := by decide +kernel
theorem dX7_lessThan_19 : decode cX7_lessThan 19 = .ok (.ifCond .lt 23, 3) := by decide +kernel
theorem dX7_lessThan_22 : decode cX7_lessThan 22 = .ok (.aload_n 0, 1) := by decide +kernel
theorem dX7_lessThan_23 : decode cX7_lessThan 23 = .ok (.getfield 28, 3) := by decide +kernel
theorem dX7_lessThan_26 : decode cX7_lessThan 26 = .ok (.iload 4, 2) := by decide +kernel
theorem dX7_lessThan_28 : decode cX7_lessThan 28 = .ok (.iaload, 1) := by decide +kernel
theorem dX7_lessThan_29 : decode cX7_lessThan 29 = .ok (.aload_n 0, 1) := by decide +kernel
theorem dX7_lessThan_30 : decode cX7_lessThan 30 = .ok (.getfield 28, 3) := by decide +kernel
theorem dX7_lessThan_33 : decode cX7_lessThan 33 = .ok (.iload_n 1, 1) := by decide +kernel
theorem dX7_lessThan_34 : decode cX7_lessThan 34 = .ok (.iaload, 1) := by decide +kernel
theorem dX7_lessThan_35 : decode cX7_lessThan 35 = .ok (.if_icmp .ge 7, 3) := by decide +kernel
theorem dX7_lessThan_38 : decode cX7_lessThan 38 = .ok (.iconst 1, 1) := by decide +kernel
theorem dX7_lessThan_39 : decode cX7_lessThan 39 = .ok (.goto 4, 3) := by decide +kernel
theorem dX7_lessThan_42 : decode cX7_lessThan 42 = .ok (.iconst 0, 1) := by decide +kernel
theorem dX7_lessThan_43 : decode cX7_lessThan 43 = .ok (.istore 5, 2) := by decide +kernel
theorem dX7_lessThan_45 : decode cX7_lessThan 45 = .ok (.iconst 0, 1) := by decide +kernel
theorem dX7_lessThan_46 : decode cX7_lessThan 46 = .ok (.istore 6, 2) := by decide +kernel
theorem dX7_lessThan_48 : decode cX7_lessThan 48 = .ok (.iload 6, 2) := by decide +kernel
theorem dX7_lessThan_50 : decode cX7_lessThan 50 = .ok (.iload 4, 2) := by decide +kernel
theorem dX7_lessThan_52 : decode cX7_lessThan 52 = .ok (.if_icmp .ge 42, 3) := by decide +kernel
theorem dX7_lessThan_55 : decode cX7_lessThan 55 = .ok (.iload_n 2, 1) := by decide +kernel
theorem dX7_lessThan_56 : decode cX7_lessThan 56 = .ok (.ifCond .eq 38, 3) := by decide +kernel
theorem dX7_lessThan_59 : decode cX7_lessThan 59 = .ok (.iload 5, 2) := by decide +kernel
theorem dX7_lessThan_61 : decode cX7_lessThan 61 = .ok (.ifCond .eq 24, 3) := by decide +kernel
theorem dX7_lessThan_64 : decode cX7_lessThan 64 = .ok (.aload_n 0, 1) := by decide +kernel
theorem dX7_lessThan_65 : decode cX7_lessThan 65 = .ok (.getfield 28, 3) := by decide +kernel
theorem dX7_lessThan_68 : decode cX7_lessThan 68 = .ok (.iload 6, 2) := by decide +kernel
theorem dX7_lessThan_70 : decode cX7_lessThan 70 = .ok (.iaload, 1) := by decide +kernel
theorem dX7_lessThan_71 : decode cX7_lessThan 71 = .ok (.aload_n 0, 1) := by decide +kernel
theorem dX7_lessThan_72 : decode cX7_lessThan 72 = .ok (.getfield 28, 3) := by decide +kernel
theorem dX7_lessThan_75 : decode cX7_lessThan 75 = .ok (.iload 4, 2) := by decide +kernel
theorem dX7_lessThan_77 : decode cX7_lessThan 77 = .ok (.iaload, 1) := by decide +kernel
theorem dX7_lessThan_78 : decode cX7_lessThan 78 = .ok (.if_icmp .eq 7, 3) := by decide +kernel
theorem dX7_lessThan_81 : decode cX7_lessThan 81 = .ok (.iconst 1, 1) := by decide +kernel
theorem dX7_lessThan_82 : decode cX7_lessThan 82 = .ok (.goto 4, 3) := by decide +kernel
theorem dX7_lessThan_85 : decode cX7_lessThan 85 = .ok (.iconst 0, 1) := by decide +kernel
theorem dX7_lessThan_86 : decode cX7_lessThan 86 = .ok (.istore 5, 2) := by decide +kernel
theorem dX7_lessThan_88 : decode cX7_lessThan 88 = .ok (.iinc 6 1, 3) := by decide +kernel
theorem dX7_lessThan_91 : decode cX7_lessThan 91 = .ok (.goto (-43), 3) := by decide +kernel
theorem dX7_lessThan_94 : decode cX7_lessThan 94 = .ok (.iload_n 3, 1) := by decide +kernel
theorem dX7_lessThan_95 : decode cX7_lessThan 95 = .ok (.iload 5, 2) := by decide +kernel
theorem dX7_lessThan_97 : decode cX7_lessThan 97 = .ok (.ifCond .eq 7, 3) := by decide +kernel
theorem dX7_lessThan_100 : decode cX7_lessThan 100 = .ok (.iconst 1, 1) := by decide +kernel
theorem dX7_lessThan_101 : decode cX7_lessThan 101 = .ok (.goto 4, 3) := by decide +kernel
theorem dX7_lessThan_104 : decode cX7_lessThan 104 = .ok (.iconst 0, 1) := by decide +kernel
theorem dX7_lessThan_105 : decode cX7_lessThan 105 = .ok (.iadd, 1) := by decide +kernel
theorem dX7_lessThan_106 : decode cX7_lessThan 106 = .ok (.istore_n 3, 1) := by decide +kernel
theorem dX7_lessThan_107 : decode cX7_lessThan 107 = .ok (.iinc 4 1, 3) := by decide +kernel
theorem dX7_lessThan_110 : decode cX7_lessThan 110 = .ok (.goto (-105), 3) := by decide +kernel
theorem dX7_lessThan_113 : decode cX7_lessThan 113 = .ok (.iload_n 3, 1) := by decide +kernel
theorem dX7_lessThan_114 : decode cX7_lessThan 114 = .ok (.ireturn, 1) := by decide +kernel
set_option maxRecDepth 20000 in
theorem ggX7_order_X7_in : GoodIn wsX7_order wsX7_in := goodIn_r _ [5] (by decide +kernel) (by decide +kernel)
set_option maxRecDepth 20000 in
theorem gX7_order_X7_in : GoodIn wsX7_order (va_wsS RX7 49 yX7_in wsX7_in) := goodIn_app (goodIn_of _ (by decide +kernel)) ggX7_order_X7_in
set_option maxRecDepth 20000 in
theorem ggX7_order_X7_refuses : GoodIn wsX7_order wsX7_refuses := goodIn_r _ [9, 10, 29, 30, 31, 32, 33, 34, 35, 36, 37, 38, 39, 40, 41, 42, 43, 44, 45] (by decide +kernel) (by decide +kernel)
set_option maxRecDepth 20000 in
theorem gX7_order_X7_refuses : GoodIn wsX7_order (wsV RX7 65 RX7 yX7_refuses wsX7_refuses) := goodIn_app (goodIn_of _ (by decide +kernel)) ggX7_order_X7_refuses
set_option maxRecDepth 20000 in
theorem ggX7_order_X7_laysSums : GoodIn wsX7_order wsX7_laysSums := goodIn_r _ [14, 1, 15, 16, 17, 18, 4, 19, 20, 21, 22, 23, 24, 29, 30, 31, 32, 33, 34, 35, 36, 37, 38, 39, 40, 41, 42, 43, 44, 45] (by decide +kernel) (by decide +kernel)
set_option maxRecDepth 20000 in
theorem gX7_order_X7_laysSums : GoodIn wsX7_order (wsV RX7 103 RX7 yX7_laysSums wsX7_laysSums) := goodIn_app (goodIn_of _ (by decide +kernel)) ggX7_order_X7_laysSums
set_option maxRecDepth 20000 in
theorem ggX7_order_X7_lessThan : GoodIn wsX7_order wsX7_lessThan := goodIn_r _ [28, 1, 29, 30, 31, 32, 33, 34, 35, 36, 37, 38, 39, 40, 41, 42, 43, 44, 45] (by decide +kernel) (by decide +kernel)
set_option maxRecDepth 20000 in
theorem gX7_order_X7_lessThan : GoodIn wsX7_order (wsV RX7 131 RX7 yX7_lessThan wsX7_lessThan) := goodIn_app (goodIn_of _ (by decide +kernel)) ggX7_order_X7_lessThan
theorem dX7_order_0 : decode cX7_order 0 = .ok (.iload_n 1, 1) := by decide +kernel
theorem dX7_order_1 : decode cX7_order 1 = .ok (.ifCond .lt 12, 3) := by decide +kernel
theorem dX7_order_4 : decode cX7_order 4 = .ok (.iload_n 2, 1) := by decide +kernel
theorem dX7_order_5 : decode cX7_order 5 = .ok (.iconst 0, 1) := by decide +kernel
theorem dX7_order_6 : decode cX7_order 6 = .ok (.iconst 1, 1) := by decide +kernel
theorem dX7_order_7 : decode cX7_order 7 = .ok (.invokestatic 49, 3) := by decide +kernel
theorem dX7_order_10 : decode cX7_order 10 = .ok (.ifCond .ne 10, 3) := by decide +kernel
theorem dX7_order_13 : decode cX7_order 13 = .ok (.aload_n 0, 1) := by decide +kernel
theorem dX7_order_14 : decode cX7_order 14 = .ok (.bipush (-2), 2) := by decide +kernel
theorem dX7_order_16 : decode cX7_order 16 = .ok (.invokevirtual 65, 3) := by decide +kernel
theorem dX7_order_19 : decode cX7_order 19 = .ok (.ireturn, 1) := by decide +kernel
theorem dX7_order_20 : decode cX7_order 20 = .ok (.aload_n 0, 1) := by decide +kernel
theorem dX7_order_21 : decode cX7_order 21 = .ok (.invokevirtual 103, 3) := by decide +kernel
theorem dX7_order_24 : decode cX7_order 24 = .ok (.iconst 0, 1) := by decide +kernel
theorem dX7_order_25 : decode cX7_order 25 = .ok (.istore_n 3, 1) := by decide +kernel
theorem dX7_order_26 : decode cX7_order 26 = .ok (.iconst (-1), 1) := by decide +kernel
theorem dX7_order_27 : decode cX7_order 27 = .ok (.istore 4, 2) := by decide +kernel
theorem dX7_order_29 : decode cX7_order 29 = .ok (.iconst 0, 1) := by decide +kernel
theorem dX7_order_30 : decode cX7_order 30 = .ok (.istore 5, 2) := by decide +kernel
theorem dX7_order_32 : decode cX7_order 32 = .ok (.iload 5, 2) := by decide +kernel
theorem dX7_order_34 : decode cX7_order 34 = .ok (.bipush 80, 2) := by decide +kernel
theorem dX7_order_36 : decode cX7_order 36 = .ok (.if_icmp .ge 42, 3) := by decide +kernel
theorem dX7_order_39 : decode cX7_order 39 = .ok (.aload_n 0, 1) := by decide +kernel
theorem dX7_order_40 : decode cX7_order 40 = .ok (.getfield 28, 3) := by decide +kernel
theorem dX7_order_43 : decode cX7_order 43 = .ok (.iload 5, 2) := by decide +kernel
theorem dX7_order_45 : decode cX7_order 45 = .ok (.iaload, 1) := by decide +kernel
theorem dX7_order_46 : decode cX7_order 46 = .ok (.ifCond .lt 26, 3) := by decide +kernel
theorem dX7_order_49 : decode cX7_order 49 = .ok (.aload_n 0, 1) := by decide +kernel
theorem dX7_order_50 : decode cX7_order 50 = .ok (.iload 5, 2) := by decide +kernel
theorem dX7_order_52 : decode cX7_order 52 = .ok (.iconst 1, 1) := by decide +kernel
theorem dX7_order_53 : decode cX7_order 53 = .ok (.invokevirtual 131, 3) := by decide +kernel
theorem dX7_order_56 : decode cX7_order 56 = .ok (.iload_n 1, 1) := by decide +kernel
theorem dX7_order_57 : decode cX7_order 57 = .ok (.if_icmp .ne 15, 3) := by decide +kernel
theorem dX7_order_60 : decode cX7_order 60 = .ok (.aload_n 0, 1) := by decide +kernel
theorem dX7_order_61 : decode cX7_order 61 = .ok (.getfield 28, 3) := by decide +kernel
theorem dX7_order_64 : decode cX7_order 64 = .ok (.iload 5, 2) := by decide +kernel
theorem dX7_order_66 : decode cX7_order 66 = .ok (.iaload, 1) := by decide +kernel
theorem dX7_order_67 : decode cX7_order 67 = .ok (.istore 4, 2) := by decide +kernel
theorem dX7_order_69 : decode cX7_order 69 = .ok (.iinc 3 1, 3) := by decide +kernel
theorem dX7_order_72 : decode cX7_order 72 = .ok (.iinc 5 1, 3) := by decide +kernel
theorem dX7_order_75 : decode cX7_order 75 = .ok (.goto (-43), 3) := by decide +kernel
theorem dX7_order_78 : decode cX7_order 78 = .ok (.iload_n 3, 1) := by decide +kernel
theorem dX7_order_79 : decode cX7_order 79 = .ok (.ifCond .ne 7, 3) := by decide +kernel
theorem dX7_order_82 : decode cX7_order 82 = .ok (.iconst (-1), 1) := by decide +kernel
theorem dX7_order_83 : decode cX7_order 83 = .ok (.goto 13, 3) := by decide +kernel
theorem dX7_order_86 : decode cX7_order 86 = .ok (.iload_n 2, 1) := by decide +kernel
theorem dX7_order_87 : decode cX7_order 87 = .ok (.ifCond .ne 8, 3) := by decide +kernel
theorem dX7_order_90 : decode cX7_order 90 = .ok (.iload 4, 2) := by decide +kernel
theorem dX7_order_92 : decode cX7_order 92 = .ok (.goto 4, 3) := by decide +kernel
theorem dX7_order_95 : decode cX7_order 95 = .ok (.iload_n 3, 1) := by decide +kernel
theorem dX7_order_96 : decode cX7_order 96 = .ok (.ireturn, 1) := by decide +kernel
set_option maxRecDepth 20000 in
theorem ggX7_turn_X7_refuses : GoodIn wsX7_turn wsX7_refuses := goodIn_r _ [6, 7, 26, 27, 28, 29, 30, 31, 32, 33, 34, 35, 36, 37, 38, 39, 40, 41, 42] (by decide +kernel) (by decide +kernel)
set_option maxRecDepth 20000 in
theorem gX7_turn_X7_refuses : GoodIn wsX7_turn (wsV RX7 65 RX7 yX7_refuses wsX7_refuses) := goodIn_app (goodIn_of _ (by decide +kernel)) ggX7_turn_X7_refuses
set_option maxRecDepth 20000 in
theorem ggX7_turn_X7_laysSums : GoodIn wsX7_turn wsX7_laysSums := goodIn_r _ [11, 1, 12, 13, 14, 15, 5, 16, 17, 18, 19, 20, 21, 26, 27, 28, 29, 30, 31, 32, 33, 34, 35, 36, 37, 38, 39, 40, 41, 42] (by decide +kernel) (by decide +kernel)
set_option maxRecDepth 20000 in
theorem gX7_turn_X7_laysSums : GoodIn wsX7_turn (wsV RX7 103 RX7 yX7_laysSums wsX7_laysSums) := goodIn_app (goodIn_of _ (by decide +kernel)) ggX7_turn_X7_laysSums
set_option maxRecDepth 20000 in
theorem ggX7_turn_X7_lessThan : GoodIn wsX7_turn wsX7_lessThan := goodIn_r _ [25, 1, 26, 27, 28, 29, 30, 31, 32, 33, 34, 35, 36, 37, 38, 39, 40, 41, 42] (by decide +kernel) (by decide +kernel)
set_option maxRecDepth 20000 in
theorem gX7_turn_X7_lessThan : GoodIn wsX7_turn (wsV RX7 131 RX7 yX7_lessThan wsX7_lessThan) := goodIn_app (goodIn_of _ (by decide +kernel)) ggX7_turn_X7_lessThan
theorem dX7_turn_0 : decode cX7_turn 0 = .ok (.iload_n 1, 1) := by decide +kernel
theorem dX7_turn_1 : decode cX7_turn 1 = .ok (.ifCond .ge 10, 3) := by decide +kernel
theorem dX7_turn_4 : decode cX7_turn 4 = .ok (.aload_n 0, 1) := by decide +kernel
theorem dX7_turn_5 : decode cX7_turn 5 = .ok (.bipush (-2), 2) := by decide +kernel
theorem dX7_turn_7 : decode cX7_turn 7 = .ok (.invokevirtual 65, 3) := by decide +kernel
theorem dX7_turn_10 : decode cX7_turn 10 = .ok (.ireturn, 1) := by decide +kernel
theorem dX7_turn_11 : decode cX7_turn 11 = .ok (.aload_n 0, 1) := by decide +kernel
theorem dX7_turn_12 : decode cX7_turn 12 = .ok (.invokevirtual 103, 3) := by decide +kernel
theorem dX7_turn_15 : decode cX7_turn 15 = .ok (.iconst (-1), 1) := by decide +kernel
theorem dX7_turn_16 : decode cX7_turn 16 = .ok (.istore_n 2, 1) := by decide +kernel
theorem dX7_turn_17 : decode cX7_turn 17 = .ok (.iconst 0, 1) := by decide +kernel
theorem dX7_turn_18 : decode cX7_turn 18 = .ok (.istore_n 3, 1) := by decide +kernel
theorem dX7_turn_19 : decode cX7_turn 19 = .ok (.iload_n 3, 1) := by decide +kernel
theorem dX7_turn_20 : decode cX7_turn 20 = .ok (.bipush 80, 2) := by decide +kernel
theorem dX7_turn_22 : decode cX7_turn 22 = .ok (.if_icmp .ge 79, 3) := by decide +kernel
theorem dX7_turn_25 : decode cX7_turn 25 = .ok (.aload_n 0, 1) := by decide +kernel
theorem dX7_turn_26 : decode cX7_turn 26 = .ok (.getfield 28, 3) := by decide +kernel
theorem dX7_turn_29 : decode cX7_turn 29 = .ok (.iload_n 3, 1) := by decide +kernel
theorem dX7_turn_30 : decode cX7_turn 30 = .ok (.iaload, 1) := by decide +kernel
theorem dX7_turn_31 : decode cX7_turn 31 = .ok (.ifCond .lt 64, 3) := by decide +kernel
theorem dX7_turn_34 : decode cX7_turn 34 = .ok (.aload_n 0, 1) := by decide +kernel
theorem dX7_turn_35 : decode cX7_turn 35 = .ok (.iload_n 3, 1) := by decide +kernel
theorem dX7_turn_36 : decode cX7_turn 36 = .ok (.iconst 0, 1) := by decide +kernel
theorem dX7_turn_37 : decode cX7_turn 37 = .ok (.invokevirtual 131, 3) := by decide +kernel
theorem dX7_turn_40 : decode cX7_turn 40 = .ok (.istore 4, 2) := by decide +kernel
theorem dX7_turn_42 : decode cX7_turn 42 = .ok (.iconst 0, 1) := by decide +kernel
theorem dX7_turn_43 : decode cX7_turn 43 = .ok (.istore 5, 2) := by decide +kernel
theorem dX7_turn_45 : decode cX7_turn 45 = .ok (.iload 5, 2) := by decide +kernel
theorem dX7_turn_47 : decode cX7_turn 47 = .ok (.iload_n 3, 1) := by decide +kernel
theorem dX7_turn_48 : decode cX7_turn 48 = .ok (.if_icmp .ge 35, 3) := by decide +kernel
theorem dX7_turn_51 : decode cX7_turn 51 = .ok (.iload 4, 2) := by decide +kernel
theorem dX7_turn_53 : decode cX7_turn 53 = .ok (.aload_n 0, 1) := by decide +kernel
theorem dX7_turn_54 : decode cX7_turn 54 = .ok (.getfield 28, 3) := by decide +kernel
theorem dX7_turn_57 : decode cX7_turn 57 = .ok (.iload 5, 2) := by decide +kernel
theorem dX7_turn_59 : decode cX7_turn 59 = .ok (.iaload, 1) := by decide +kernel
theorem dX7_turn_60 : decode cX7_turn 60 = .ok (.aload_n 0, 1) := by decide +kernel
theorem dX7_turn_61 : decode cX7_turn 61 = .ok (.getfield 28, 3) := by decide +kernel
theorem dX7_turn_64 : decode cX7_turn 64 = .ok (.iload_n 3, 1) := by decide +kernel
theorem dX7_turn_65 : decode cX7_turn 65 = .ok (.iaload, 1) := by decide +kernel
theorem dX7_turn_66 : decode cX7_turn 66 = .ok (.if_icmp .ne 7, 3) := by decide +kernel
theorem dX7_turn_69 : decode cX7_turn 69 = .ok (.iconst 1, 1) := by decide +kernel
theorem dX7_turn_70 : decode cX7_turn 70 = .ok (.goto 4, 3) := by decide +kernel
theorem dX7_turn_73 : decode cX7_turn 73 = .ok (.iconst 0, 1) := by decide +kernel
theorem dX7_turn_74 : decode cX7_turn 74 = .ok (.iadd, 1) := by decide +kernel
theorem dX7_turn_75 : decode cX7_turn 75 = .ok (.istore 4, 2) := by decide +kernel
theorem dX7_turn_77 : decode cX7_turn 77 = .ok (.iinc 5 1, 3) := by decide +kernel
theorem dX7_turn_80 : decode cX7_turn 80 = .ok (.goto (-35), 3) := by decide +kernel
theorem dX7_turn_83 : decode cX7_turn 83 = .ok (.iload 4, 2) := by decide +kernel
theorem dX7_turn_85 : decode cX7_turn 85 = .ok (.iload_n 1, 1) := by decide +kernel
theorem dX7_turn_86 : decode cX7_turn 86 = .ok (.if_icmp .ne 7, 3) := by decide +kernel
theorem dX7_turn_89 : decode cX7_turn 89 = .ok (.iload_n 3, 1) := by decide +kernel
theorem dX7_turn_90 : decode cX7_turn 90 = .ok (.goto 4, 3) := by decide +kernel
theorem dX7_turn_93 : decode cX7_turn 93 = .ok (.iload_n 2, 1) := by decide +kernel
theorem dX7_turn_94 : decode cX7_turn 94 = .ok (.istore_n 2, 1) := by decide +kernel
theorem dX7_turn_95 : decode cX7_turn 95 = .ok (.iinc 3 1, 3) := by decide +kernel
theorem dX7_turn_98 : decode cX7_turn 98 = .ok (.goto (-79), 3) := by decide +kernel
theorem dX7_turn_101 : decode cX7_turn 101 = .ok (.iload_n 2, 1) := by decide +kernel
theorem dX7_turn_102 : decode cX7_turn 102 = .ok (.ireturn, 1) := by decide +kernel
set_option maxRecDepth 20000 in
theorem ggX7_burden_X7_laysBurdens : GoodIn wsX7_burden wsX7_laysBurdens := goodIn_r _ [6, 1, 7, 8, 9, 10, 5, 11, 12, 13, 14, 15, 24, 25, 26, 27, 28, 29, 30, 31, 32, 33, 34, 35, 36, 37, 38, 39, 40] (by decide +kernel) (by decide +kernel)
set_option maxRecDepth 20000 in
theorem gX7_burden_X7_laysBurdens : GoodIn wsX7_burden (wsV RX7 109 RX7 yX7_laysBurdens wsX7_laysBurdens) := goodIn_app (goodIn_of _ (by decide +kernel)) ggX7_burden_X7_laysBurdens
set_option maxRecDepth 20000 in
theorem ggX7_burden_X7_in : GoodIn wsX7_burden wsX7_in := goodIn_r _ [18] (by decide +kernel) (by decide +kernel)
set_option maxRecDepth 20000 in
theorem gX7_burden_X7_in : GoodIn wsX7_burden (va_wsS RX7 49 yX7_in wsX7_in) := goodIn_app (goodIn_of _ (by decide +kernel)) ggX7_burden_X7_in
set_option maxRecDepth 20000 in
theorem ggX7_burden_X7_refuses : GoodIn wsX7_burden wsX7_refuses := goodIn_r _ [22, 23, 24, 25, 26, 27, 28, 29, 30, 31, 32, 33, 34, 35, 36, 37, 38, 39, 40] (by decide +kernel) (by decide +kernel)
set_option maxRecDepth 20000 in
theorem gX7_burden_X7_refuses : GoodIn wsX7_burden (wsV RX7 65 RX7 yX7_refuses wsX7_refuses) := goodIn_app (goodIn_of _ (by decide +kernel)) ggX7_burden_X7_refuses
theorem dX7_burden_0 : decode cX7_burden 0 = .ok (.aload_n 0, 1) := by decide +kernel
theorem dX7_burden_1 : decode cX7_burden 1 = .ok (.invokevirtual 109, 3) := by decide +kernel
theorem dX7_burden_4 : decode cX7_burden 4 = .ok (.iload_n 1, 1) := by decide +kernel
theorem dX7_burden_5 : decode cX7_burden 5 = .ok (.iconst 1, 1) := by decide +kernel
theorem dX7_burden_6 : decode cX7_burden 6 = .ok (.iconst 3, 1) := by decide +kernel
theorem dX7_burden_7 : decode cX7_burden 7 = .ok (.invokestatic 49, 3) := by decide +kernel
theorem dX7_burden_10 : decode cX7_burden 10 = .ok (.ifCond .eq 12, 3) := by decide +kernel
theorem dX7_burden_13 : decode cX7_burden 13 = .ok (.aload_n 0, 1) := by decide +kernel
theorem dX7_burden_14 : decode cX7_burden 14 = .ok (.getfield 40, 3) := by decide +kernel
theorem dX7_burden_17 : decode cX7_burden 17 = .ok (.iload_n 1, 1) := by decide +kernel
theorem dX7_burden_18 : decode cX7_burden 18 = .ok (.iaload, 1) := by decide +kernel
theorem dX7_burden_19 : decode cX7_burden 19 = .ok (.goto 9, 3) := by decide +kernel
theorem dX7_burden_22 : decode cX7_burden 22 = .ok (.aload_n 0, 1) := by decide +kernel
theorem dX7_burden_23 : decode cX7_burden 23 = .ok (.bipush (-2), 2) := by decide +kernel
theorem dX7_burden_25 : decode cX7_burden 25 = .ok (.invokevirtual 65, 3) := by decide +kernel
theorem dX7_burden_28 : decode cX7_burden 28 = .ok (.ireturn, 1) := by decide +kernel
set_option maxRecDepth 20000 in
theorem ggX7_all_X7_in : GoodIn wsX7_all wsX7_in := goodIn_r _ [5] (by decide +kernel) (by decide +kernel)
set_option maxRecDepth 20000 in
theorem gX7_all_X7_in : GoodIn wsX7_all (va_wsS RX7 49 yX7_in wsX7_in) := goodIn_app (goodIn_of _ (by decide +kernel)) ggX7_all_X7_in
set_option maxRecDepth 20000 in
theorem ggX7_all_X7_refuses : GoodIn wsX7_all wsX7_refuses := goodIn_r _ [9, 10, 11, 12, 13, 14, 15, 16, 17, 18, 19, 20, 21, 22, 23, 24, 25, 26, 27] (by decide +kernel) (by decide +kernel)
set_option maxRecDepth 20000 in
theorem gX7_all_X7_refuses : GoodIn wsX7_all (wsV RX7 65 RX7 yX7_refuses wsX7_refuses) := goodIn_app (goodIn_of _ (by decide +kernel)) ggX7_all_X7_refuses
theorem dX7_all_0 : decode cX7_all 0 = .ok (.iload_n 1, 1) := by decide +kernel
theorem dX7_all_1 : decode cX7_all 1 = .ok (.iconst 0, 1) := by decide +kernel
theorem dX7_all_2 : decode cX7_all 2 = .ok (.iconst 3, 1) := by decide +kernel
theorem dX7_all_3 : decode cX7_all 3 = .ok (.invokestatic 49, 3) := by decide +kernel
theorem dX7_all_6 : decode cX7_all 6 = .ok (.ifCond .ne 10, 3) := by decide +kernel
theorem dX7_all_9 : decode cX7_all 9 = .ok (.aload_n 0, 1) := by decide +kernel
theorem dX7_all_10 : decode cX7_all 10 = .ok (.bipush (-2), 2) := by decide +kernel
theorem dX7_all_12 : decode cX7_all 12 = .ok (.invokevirtual 65, 3) := by decide +kernel
theorem dX7_all_15 : decode cX7_all 15 = .ok (.ireturn, 1) := by decide +kernel
theorem dX7_all_16 : decode cX7_all 16 = .ok (.iconst 0, 1) := by decide +kernel
theorem dX7_all_17 : decode cX7_all 17 = .ok (.istore_n 2, 1) := by decide +kernel
theorem dX7_all_18 : decode cX7_all 18 = .ok (.iconst 0, 1) := by decide +kernel
theorem dX7_all_19 : decode cX7_all 19 = .ok (.istore_n 3, 1) := by decide +kernel
theorem dX7_all_20 : decode cX7_all 20 = .ok (.iload_n 3, 1) := by decide +kernel
theorem dX7_all_21 : decode cX7_all 21 = .ok (.bipush 80, 2) := by decide +kernel
theorem dX7_all_23 : decode cX7_all 23 = .ok (.if_icmp .ge 78, 3) := by decide +kernel
theorem dX7_all_26 : decode cX7_all 26 = .ok (.iload_n 2, 1) := by decide +kernel
theorem dX7_all_27 : decode cX7_all 27 = .ok (.iload_n 1, 1) := by decide +kernel
theorem dX7_all_28 : decode cX7_all 28 = .ok (.ifCond .ne 16, 3) := by decide +kernel
theorem dX7_all_31 : decode cX7_all 31 = .ok (.aload_n 0, 1) := by decide +kernel
theorem dX7_all_32 : decode cX7_all 32 = .ok (.getfield 7, 3) := by decide +kernel
theorem dX7_all_35 : decode cX7_all 35 = .ok (.sipush 320, 3) := by decide +kernel
theorem dX7_all_38 : decode cX7_all 38 = .ok (.iload_n 3, 1) := by decide +kernel
theorem dX7_all_39 : decode cX7_all 39 = .ok (.iadd, 1) := by decide +kernel
theorem dX7_all_40 : decode cX7_all 40 = .ok (.iaload, 1) := by decide +kernel
theorem dX7_all_41 : decode cX7_all 41 = .ok (.goto 52, 3) := by decide +kernel
theorem dX7_all_44 : decode cX7_all 44 = .ok (.iload_n 1, 1) := by decide +kernel
theorem dX7_all_45 : decode cX7_all 45 = .ok (.iconst 1, 1) := by decide +kernel
theorem dX7_all_46 : decode cX7_all 46 = .ok (.if_icmp .ne 12, 3) := by decide +kernel
theorem dX7_all_49 : decode cX7_all 49 = .ok (.aload_n 0, 1) := by decide +kernel
theorem dX7_all_50 : decode cX7_all 50 = .ok (.getfield 7, 3) := by decide +kernel
theorem dX7_all_53 : decode cX7_all 53 = .ok (.iload_n 3, 1) := by decide +kernel
theorem dX7_all_54 : decode cX7_all 54 = .ok (.iaload, 1) := by decide +kernel
theorem dX7_all_55 : decode cX7_all 55 = .ok (.goto 38, 3) := by decide +kernel
theorem dX7_all_58 : decode cX7_all 58 = .ok (.iload_n 1, 1) := by decide +kernel
theorem dX7_all_59 : decode cX7_all 59 = .ok (.iconst 2, 1) := by decide +kernel
theorem dX7_all_60 : decode cX7_all 60 = .ok (.if_icmp .ne 24, 3) := by decide +kernel
theorem dX7_all_63 : decode cX7_all 63 = .ok (.aload_n 0, 1) := by decide +kernel
theorem dX7_all_64 : decode cX7_all 64 = .ok (.getfield 7, 3) := by decide +kernel
theorem dX7_all_67 : decode cX7_all 67 = .ok (.sipush 320, 3) := by decide +kernel
theorem dX7_all_70 : decode cX7_all 70 = .ok (.iload_n 3, 1) := by decide +kernel
theorem dX7_all_71 : decode cX7_all 71 = .ok (.iadd, 1) := by decide +kernel
theorem dX7_all_72 : decode cX7_all 72 = .ok (.iaload, 1) := by decide +kernel
theorem dX7_all_73 : decode cX7_all 73 = .ok (.ifCond .le 7, 3) := by decide +kernel
theorem dX7_all_76 : decode cX7_all 76 = .ok (.iconst 1, 1) := by decide +kernel
theorem dX7_all_77 : decode cX7_all 77 = .ok (.goto 16, 3) := by decide +kernel
theorem dX7_all_80 : decode cX7_all 80 = .ok (.iconst 0, 1) := by decide +kernel
theorem dX7_all_81 : decode cX7_all 81 = .ok (.goto 12, 3) := by decide +kernel
theorem dX7_all_84 : decode cX7_all 84 = .ok (.aload_n 0, 1) := by decide +kernel
theorem dX7_all_85 : decode cX7_all 85 = .ok (.getfield 7, 3) := by decide +kernel
theorem dX7_all_88 : decode cX7_all 88 = .ok (.bipush 80, 2) := by decide +kernel
theorem dX7_all_90 : decode cX7_all 90 = .ok (.iload_n 3, 1) := by decide +kernel
theorem dX7_all_91 : decode cX7_all 91 = .ok (.iadd, 1) := by decide +kernel
theorem dX7_all_92 : decode cX7_all 92 = .ok (.iaload, 1) := by decide +kernel
theorem dX7_all_93 : decode cX7_all 93 = .ok (.iadd, 1) := by decide +kernel
theorem dX7_all_94 : decode cX7_all 94 = .ok (.istore_n 2, 1) := by decide +kernel
theorem dX7_all_95 : decode cX7_all 95 = .ok (.iinc 3 1, 3) := by decide +kernel
theorem dX7_all_98 : decode cX7_all 98 = .ok (.goto (-78), 3) := by decide +kernel
theorem dX7_all_101 : decode cX7_all 101 = .ok (.iload_n 2, 1) := by decide +kernel
theorem dX7_all_102 : decode cX7_all 102 = .ok (.ireturn, 1) := by decide +kernel
theorem dX7_fills_0 : decode cX7_fills 0 = .ok (.iconst 0, 1) := by decide +kernel
theorem dX7_fills_1 : decode cX7_fills 1 = .ok (.istore_n 2, 1) := by decide +kernel
theorem dX7_fills_2 : decode cX7_fills 2 = .ok (.iload_n 2, 1) := by decide +kernel
theorem dX7_fills_3 : decode cX7_fills 3 = .ok (.bipush 80, 2) := by decide +kernel
theorem dX7_fills_5 : decode cX7_fills 5 = .ok (.if_icmp .ge 30, 3) := by decide +kernel
theorem dX7_fills_8 : decode cX7_fills 8 = .ok (.aload_n 0, 1) := by decide +kernel
theorem dX7_fills_9 : decode cX7_fills 9 = .ok (.getfield 7, 3) := by decide +kernel
theorem dX7_fills_12 : decode cX7_fills 12 = .ok (.sipush 320, 3) := by decide +kernel
theorem dX7_fills_15 : decode cX7_fills 15 = .ok (.iload_n 2, 1) := by decide +kernel
theorem dX7_fills_16 : decode cX7_fills 16 = .ok (.iadd, 1) := by decide +kernel
theorem dX7_fills_17 : decode cX7_fills 17 = .ok (.dup2, 1) := by decide +kernel
theorem dX7_fills_18 : decode cX7_fills 18 = .ok (.iaload, 1) := by decide +kernel
theorem dX7_fills_19 : decode cX7_fills 19 = .ok (.iload_n 1, 1) := by decide +kernel
theorem dX7_fills_20 : decode cX7_fills 20 = .ok (.aload_n 0, 1) := by decide +kernel
theorem dX7_fills_21 : decode cX7_fills 21 = .ok (.getfield 34, 3) := by decide +kernel
theorem dX7_fills_24 : decode cX7_fills 24 = .ok (.iload_n 2, 1) := by decide +kernel
theorem dX7_fills_25 : decode cX7_fills 25 = .ok (.iaload, 1) := by decide +kernel
theorem dX7_fills_26 : decode cX7_fills 26 = .ok (.imul, 1) := by decide +kernel
theorem dX7_fills_27 : decode cX7_fills 27 = .ok (.iadd, 1) := by decide +kernel
theorem dX7_fills_28 : decode cX7_fills 28 = .ok (.iastore, 1) := by decide +kernel
theorem dX7_fills_29 : decode cX7_fills 29 = .ok (.iinc 2 1, 3) := by decide +kernel
theorem dX7_fills_32 : decode cX7_fills 32 = .ok (.goto (-30), 3) := by decide +kernel
theorem dX7_fills_35 : decode cX7_fills 35 = .ok (.return_, 1) := by decide +kernel
set_option maxRecDepth 20000 in
theorem ggX7_more_X7_isCell : GoodIn wsX7_more wsX7_isCell := goodIn_r _ [5, 6, 7, 4, 8] (by decide +kernel) (by decide +kernel)
set_option maxRecDepth 20000 in
theorem gX7_more_X7_isCell : GoodIn wsX7_more (va_wsS RX7 61 yX7_isCell wsX7_isCell) := goodIn_app (goodIn_of _ (by decide +kernel)) ggX7_more_X7_isCell
set_option maxRecDepth 20000 in
theorem ggX7_more_X7_refuses : GoodIn wsX7_more wsX7_refuses := goodIn_r _ [12, 13, 85, 86, 87, 88, 89, 90, 91, 92, 93, 94, 95, 96, 97, 98, 99, 100, 101] (by decide +kernel) (by decide +kernel)
set_option maxRecDepth 20000 in
theorem gX7_more_X7_refuses : GoodIn wsX7_more (wsV RX7 65 RX7 yX7_refuses wsX7_refuses) := goodIn_app (goodIn_of _ (by decide +kernel)) ggX7_more_X7_refuses
set_option maxRecDepth 20000 in
theorem ggX7_more_X7_lays : GoodIn wsX7_more wsX7_lays := goodIn_r _ [17, 18, 19, 20, 4, 21, 22, 23, 24, 25, 26, 27, 28, 29, 30, 31, 1, 32, 33, 34, 35, 36, 37, 38, 39, 40, 41, 42, 43, 44, 45, 46, 47, 48, 49, 50, 51, 52, 53, 85, 86, 87, 88, 89, 90, 91, 92, 93, 94, 95, 96, 97, 98, 99, 100, 101] (by decide +kernel) (by decide +kernel)
set_option maxRecDepth 20000 in
theorem gX7_more_X7_lays : GoodIn wsX7_more (wsV RX7 122 RX7 yX7_lays wsX7_lays) := goodIn_app (goodIn_of _ (by decide +kernel)) ggX7_more_X7_lays
set_option maxRecDepth 20000 in
theorem ggX7_more_X7_may : GoodIn wsX7_more wsX7_may := goodIn_r _ [57, 58, 59, 60, 45, 23, 1, 22, 61, 62, 63, 4, 64, 65, 46, 47, 48, 49, 50, 51, 52, 53, 28, 29, 30, 31, 66, 67, 68, 69, 85, 86, 87, 88, 89, 90, 91, 92, 93, 94, 95, 96, 97, 98, 99, 100, 101] (by decide +kernel) (by decide +kernel)
set_option maxRecDepth 20000 in
theorem gX7_more_X7_may : GoodIn wsX7_more (wsV RX7 125 RX7 yX7_may wsX7_may) := goodIn_app (goodIn_of _ (by decide +kernel)) ggX7_more_X7_may
set_option maxRecDepth 20000 in
theorem ggX7_more_X7_aside : GoodIn wsX7_more wsX7_aside := goodIn_r _ [73, 74, 1, 85, 86, 87, 88, 89, 90, 91, 92, 93, 94, 95, 96, 97, 98, 99, 100, 101] (by decide +kernel) (by decide +kernel)
set_option maxRecDepth 20000 in
theorem gX7_more_X7_aside : GoodIn wsX7_more (wsV RX7 68 RX7 yX7_aside wsX7_aside) := goodIn_app (goodIn_of _ (by decide +kernel)) ggX7_more_X7_aside
set_option maxRecDepth 20000 in
theorem ggX7_more_X7_keeps : GoodIn wsX7_more wsX7_keeps := goodIn_r _ [78, 79, 80, 74, 85, 86, 87, 88, 89, 90, 91, 92, 93, 94, 95, 96, 97, 98, 99, 100, 101] (by decide +kernel) (by decide +kernel)
set_option maxRecDepth 20000 in
theorem gX7_more_X7_keeps : GoodIn wsX7_more (wsV RX7 71 RX7 yX7_keeps wsX7_keeps) := goodIn_app (goodIn_of _ (by decide +kernel)) ggX7_more_X7_keeps
set_option maxRecDepth 20000 in
theorem ggX7_more_X7_fills : GoodIn wsX7_more wsX7_fills := goodIn_r _ [84, 1, 65, 85, 86, 87, 88, 89, 90, 91, 92, 93, 94, 95, 96, 97, 98, 99, 100, 101] (by decide +kernel) (by decide +kernel)
set_option maxRecDepth 20000 in
theorem gX7_more_X7_fills : GoodIn wsX7_more (wsV RX7 135 RX7 yX7_fills wsX7_fills) := goodIn_app (goodIn_of _ (by decide +kernel)) ggX7_more_X7_fills
theorem dX7_more_0 : decode cX7_more 0 = .ok (.iload_n 1, 1) := by decide +kernel
theorem dX7_more_1 : decode cX7_more 1 = .ok (.invokestatic 61, 3) := by decide +kernel
theorem dX7_more_4 : decode cX7_more 4 = .ok (.ifCond .ne 10, 3) := by decide +kernel
theorem dX7_more_7 : decode cX7_more 7 = .ok (.aload_n 0, 1) := by decide +kernel
theorem dX7_more_8 : decode cX7_more 8 = .ok (.bipush (-2), 2) := by decide +kernel
theorem dX7_more_10 : decode cX7_more 10 = .ok (.invokevirtual 65, 3) := by decide +kernel
theorem dX7_more_13 : decode cX7_more 13 = .ok (.ireturn, 1) := by decide +kernel
theorem dX7_more_14 : decode cX7_more 14 = .ok (.aload_n 0, 1) := by decide +kernel
theorem dX7_more_15 : decode cX7_more 15 = .ok (.invokevirtual 122, 3) := by decide +kernel
theorem dX7_more_18 : decode cX7_more 18 = .ok (.aload_n 0, 1) := by decide +kernel
theorem dX7_more_19 : decode cX7_more 19 = .ok (.iload_n 1, 1) := by decide +kernel
theorem dX7_more_20 : decode cX7_more 20 = .ok (.invokevirtual 125, 3) := by decide +kernel
theorem dX7_more_23 : decode cX7_more 23 = .ok (.ifCond .ne 10, 3) := by decide +kernel
theorem dX7_more_26 : decode cX7_more 26 = .ok (.aload_n 0, 1) := by decide +kernel
theorem dX7_more_27 : decode cX7_more 27 = .ok (.bipush (-3), 2) := by decide +kernel
theorem dX7_more_29 : decode cX7_more 29 = .ok (.invokevirtual 65, 3) := by decide +kernel
theorem dX7_more_32 : decode cX7_more 32 = .ok (.ireturn, 1) := by decide +kernel
theorem dX7_more_33 : decode cX7_more 33 = .ok (.aload_n 0, 1) := by decide +kernel
theorem dX7_more_34 : decode cX7_more 34 = .ok (.invokevirtual 68, 3) := by decide +kernel
theorem dX7_more_37 : decode cX7_more 37 = .ok (.aload_n 0, 1) := by decide +kernel
theorem dX7_more_38 : decode cX7_more 38 = .ok (.invokevirtual 71, 3) := by decide +kernel
theorem dX7_more_41 : decode cX7_more 41 = .ok (.aload_n 0, 1) := by decide +kernel
theorem dX7_more_42 : decode cX7_more 42 = .ok (.iconst 1, 1) := by decide +kernel
theorem dX7_more_43 : decode cX7_more 43 = .ok (.invokevirtual 135, 3) := by decide +kernel
theorem dX7_more_46 : decode cX7_more 46 = .ok (.aload_n 0, 1) := by decide +kernel
theorem dX7_more_47 : decode cX7_more 47 = .ok (.getfield 7, 3) := by decide +kernel
theorem dX7_more_50 : decode cX7_more 50 = .ok (.sipush 320, 3) := by decide +kernel
theorem dX7_more_53 : decode cX7_more 53 = .ok (.iload_n 1, 1) := by decide +kernel
theorem dX7_more_54 : decode cX7_more 54 = .ok (.iadd, 1) := by decide +kernel
theorem dX7_more_55 : decode cX7_more 55 = .ok (.iaload, 1) := by decide +kernel
theorem dX7_more_56 : decode cX7_more 56 = .ok (.ireturn, 1) := by decide +kernel
set_option maxRecDepth 20000 in
theorem ggX7_less_X7_isCell : GoodIn wsX7_less wsX7_isCell := goodIn_r _ [5, 6, 7, 4, 8] (by decide +kernel) (by decide +kernel)
set_option maxRecDepth 20000 in
theorem gX7_less_X7_isCell : GoodIn wsX7_less (va_wsS RX7 61 yX7_isCell wsX7_isCell) := goodIn_app (goodIn_of _ (by decide +kernel)) ggX7_less_X7_isCell
set_option maxRecDepth 20000 in
theorem ggX7_less_X7_refuses : GoodIn wsX7_less wsX7_refuses := goodIn_r _ [12, 13, 36, 37, 38, 39, 40, 41, 42, 43, 44, 45, 46, 47, 48, 49, 50, 51, 52] (by decide +kernel) (by decide +kernel)
set_option maxRecDepth 20000 in
theorem gX7_less_X7_refuses : GoodIn wsX7_less (wsV RX7 65 RX7 yX7_refuses wsX7_refuses) := goodIn_app (goodIn_of _ (by decide +kernel)) ggX7_less_X7_refuses
set_option maxRecDepth 20000 in
theorem ggX7_less_X7_aside : GoodIn wsX7_less wsX7_aside := goodIn_r _ [17, 18, 1, 36, 37, 38, 39, 40, 41, 42, 43, 44, 45, 46, 47, 48, 49, 50, 51, 52] (by decide +kernel) (by decide +kernel)
set_option maxRecDepth 20000 in
theorem gX7_less_X7_aside : GoodIn wsX7_less (wsV RX7 68 RX7 yX7_aside wsX7_aside) := goodIn_app (goodIn_of _ (by decide +kernel)) ggX7_less_X7_aside
set_option maxRecDepth 20000 in
theorem ggX7_less_X7_keeps : GoodIn wsX7_less wsX7_keeps := goodIn_r _ [22, 23, 24, 18, 36, 37, 38, 39, 40, 41, 42, 43, 44, 45, 46, 47, 48, 49, 50, 51, 52] (by decide +kernel) (by decide +kernel)
set_option maxRecDepth 20000 in
theorem gX7_less_X7_keeps : GoodIn wsX7_less (wsV RX7 71 RX7 yX7_keeps wsX7_keeps) := goodIn_app (goodIn_of _ (by decide +kernel)) ggX7_less_X7_keeps
set_option maxRecDepth 20000 in
theorem ggX7_less_X7_marks : GoodIn wsX7_less wsX7_marks := goodIn_r _ [28, 1, 29, 30, 31, 36, 37, 38, 39, 40, 41, 42, 43, 44, 45, 46, 47, 48, 49, 50, 51, 52] (by decide +kernel) (by decide +kernel)
set_option maxRecDepth 20000 in
theorem gX7_less_X7_marks : GoodIn wsX7_less (wsV RX7 115 RX7 yX7_marks wsX7_marks) := goodIn_app (goodIn_of _ (by decide +kernel)) ggX7_less_X7_marks
set_option maxRecDepth 20000 in
theorem ggX7_less_X7_fills : GoodIn wsX7_less wsX7_fills := goodIn_r _ [35, 1, 30, 36, 37, 38, 39, 40, 41, 42, 43, 44, 45, 46, 47, 48, 49, 50, 51, 52] (by decide +kernel) (by decide +kernel)
set_option maxRecDepth 20000 in
theorem gX7_less_X7_fills : GoodIn wsX7_less (wsV RX7 135 RX7 yX7_fills wsX7_fills) := goodIn_app (goodIn_of _ (by decide +kernel)) ggX7_less_X7_fills
theorem dX7_less_0 : decode cX7_less 0 = .ok (.iload_n 1, 1) := by decide +kernel
theorem dX7_less_1 : decode cX7_less 1 = .ok (.invokestatic 61, 3) := by decide +kernel
theorem dX7_less_4 : decode cX7_less 4 = .ok (.ifCond .ne 10, 3) := by decide +kernel
theorem dX7_less_7 : decode cX7_less 7 = .ok (.aload_n 0, 1) := by decide +kernel
theorem dX7_less_8 : decode cX7_less 8 = .ok (.bipush (-2), 2) := by decide +kernel
theorem dX7_less_10 : decode cX7_less 10 = .ok (.invokevirtual 65, 3) := by decide +kernel
theorem dX7_less_13 : decode cX7_less 13 = .ok (.ireturn, 1) := by decide +kernel
theorem dX7_less_14 : decode cX7_less 14 = .ok (.aload_n 0, 1) := by decide +kernel
theorem dX7_less_15 : decode cX7_less 15 = .ok (.getfield 7, 3) := by decide +kernel
theorem dX7_less_18 : decode cX7_less 18 = .ok (.sipush 320, 3) := by decide +kernel
theorem dX7_less_21 : decode cX7_less 21 = .ok (.iload_n 1, 1) := by decide +kernel
theorem dX7_less_22 : decode cX7_less 22 = .ok (.iadd, 1) := by decide +kernel
theorem dX7_less_23 : decode cX7_less 23 = .ok (.iaload, 1) := by decide +kernel
theorem dX7_less_24 : decode cX7_less 24 = .ok (.ifCond .ne 10, 3) := by decide +kernel
theorem dX7_less_27 : decode cX7_less 27 = .ok (.aload_n 0, 1) := by decide +kernel
theorem dX7_less_28 : decode cX7_less 28 = .ok (.bipush (-3), 2) := by decide +kernel
theorem dX7_less_30 : decode cX7_less 30 = .ok (.invokevirtual 65, 3) := by decide +kernel
theorem dX7_less_33 : decode cX7_less 33 = .ok (.ireturn, 1) := by decide +kernel
theorem dX7_less_34 : decode cX7_less 34 = .ok (.aload_n 0, 1) := by decide +kernel
theorem dX7_less_35 : decode cX7_less 35 = .ok (.invokevirtual 68, 3) := by decide +kernel
theorem dX7_less_38 : decode cX7_less 38 = .ok (.aload_n 0, 1) := by decide +kernel
theorem dX7_less_39 : decode cX7_less 39 = .ok (.invokevirtual 71, 3) := by decide +kernel
theorem dX7_less_42 : decode cX7_less 42 = .ok (.aload_n 0, 1) := by decide +kernel
theorem dX7_less_43 : decode cX7_less 43 = .ok (.iload_n 1, 1) := by decide +kernel
theorem dX7_less_44 : decode cX7_less 44 = .ok (.invokevirtual 115, 3) := by decide +kernel
theorem dX7_less_47 : decode cX7_less 47 = .ok (.aload_n 0, 1) := by decide +kernel
theorem dX7_less_48 : decode cX7_less 48 = .ok (.iconst (-1), 1) := by decide +kernel
theorem dX7_less_49 : decode cX7_less 49 = .ok (.invokevirtual 135, 3) := by decide +kernel
theorem dX7_less_52 : decode cX7_less 52 = .ok (.aload_n 0, 1) := by decide +kernel
theorem dX7_less_53 : decode cX7_less 53 = .ok (.getfield 7, 3) := by decide +kernel
theorem dX7_less_56 : decode cX7_less 56 = .ok (.sipush 320, 3) := by decide +kernel
theorem dX7_less_59 : decode cX7_less 59 = .ok (.iload_n 1, 1) := by decide +kernel
theorem dX7_less_60 : decode cX7_less 60 = .ok (.iadd, 1) := by decide +kernel
theorem dX7_less_61 : decode cX7_less 61 = .ok (.iaload, 1) := by decide +kernel
theorem dX7_less_62 : decode cX7_less 62 = .ok (.ireturn, 1) := by decide +kernel
set_option maxRecDepth 20000 in
theorem ggX7_reaches_X7_has : GoodIn wsX7_reaches wsX7_has := goodIn_r _ [8, 9, 10, 11, 7, 12, 13, 14, 15, 16, 17, 18, 19, 20, 21, 22, 23, 24, 25, 26, 27, 28, 29] (by decide +kernel) (by decide +kernel)
set_option maxRecDepth 20000 in
theorem gX7_reaches_X7_has : GoodIn wsX7_reaches (wsV RX7 138 RX7 yX7_has wsX7_has) := goodIn_app (goodIn_of _ (by decide +kernel)) ggX7_reaches_X7_has
theorem dX7_reaches_0 : decode cX7_reaches 0 = .ok (.iconst 0, 1) := by decide +kernel
theorem dX7_reaches_1 : decode cX7_reaches 1 = .ok (.istore_n 2, 1) := by decide +kernel
theorem dX7_reaches_2 : decode cX7_reaches 2 = .ok (.iconst 0, 1) := by decide +kernel
theorem dX7_reaches_3 : decode cX7_reaches 3 = .ok (.istore_n 3, 1) := by decide +kernel
theorem dX7_reaches_4 : decode cX7_reaches 4 = .ok (.iload_n 3, 1) := by decide +kernel
theorem dX7_reaches_5 : decode cX7_reaches 5 = .ok (.aload_n 0, 1) := by decide +kernel
theorem dX7_reaches_6 : decode cX7_reaches 6 = .ok (.getfield 112, 3) := by decide +kernel
theorem dX7_reaches_9 : decode cX7_reaches 9 = .ok (.if_icmp .ge 54, 3) := by decide +kernel
theorem dX7_reaches_12 : decode cX7_reaches 12 = .ok (.iload_n 2, 1) := by decide +kernel
theorem dX7_reaches_13 : decode cX7_reaches 13 = .ok (.ifCond .ne 38, 3) := by decide +kernel
theorem dX7_reaches_16 : decode cX7_reaches 16 = .ok (.iload_n 1, 1) := by decide +kernel
theorem dX7_reaches_17 : decode cX7_reaches 17 = .ok (.ifCond .ge 20, 3) := by decide +kernel
theorem dX7_reaches_20 : decode cX7_reaches 20 = .ok (.aload_n 0, 1) := by decide +kernel
theorem dX7_reaches_21 : decode cX7_reaches 21 = .ok (.getfield 31, 3) := by decide +kernel
theorem dX7_reaches_24 : decode cX7_reaches 24 = .ok (.aload_n 0, 1) := by decide +kernel
theorem dX7_reaches_25 : decode cX7_reaches 25 = .ok (.getfield 37, 3) := by decide +kernel
theorem dX7_reaches_28 : decode cX7_reaches 28 = .ok (.iload_n 3, 1) := by decide +kernel
theorem dX7_reaches_29 : decode cX7_reaches 29 = .ok (.iaload, 1) := by decide +kernel
theorem dX7_reaches_30 : decode cX7_reaches 30 = .ok (.iaload, 1) := by decide +kernel
theorem dX7_reaches_31 : decode cX7_reaches 31 = .ok (.ifCond .le 24, 3) := by decide +kernel
theorem dX7_reaches_34 : decode cX7_reaches 34 = .ok (.goto 17, 3) := by decide +kernel
theorem dX7_reaches_37 : decode cX7_reaches 37 = .ok (.aload_n 0, 1) := by decide +kernel
theorem dX7_reaches_38 : decode cX7_reaches 38 = .ok (.iload_n 1, 1) := by decide +kernel
theorem dX7_reaches_39 : decode cX7_reaches 39 = .ok (.aload_n 0, 1) := by decide +kernel
theorem dX7_reaches_40 : decode cX7_reaches 40 = .ok (.getfield 37, 3) := by decide +kernel
theorem dX7_reaches_43 : decode cX7_reaches 43 = .ok (.iload_n 3, 1) := by decide +kernel
theorem dX7_reaches_44 : decode cX7_reaches 44 = .ok (.iaload, 1) := by decide +kernel
theorem dX7_reaches_45 : decode cX7_reaches 45 = .ok (.invokevirtual 138, 3) := by decide +kernel
theorem dX7_reaches_48 : decode cX7_reaches 48 = .ok (.ifCond .eq 7, 3) := by decide +kernel
theorem dX7_reaches_51 : decode cX7_reaches 51 = .ok (.iconst 1, 1) := by decide +kernel
theorem dX7_reaches_52 : decode cX7_reaches 52 = .ok (.goto 4, 3) := by decide +kernel
theorem dX7_reaches_55 : decode cX7_reaches 55 = .ok (.iconst 0, 1) := by decide +kernel
theorem dX7_reaches_56 : decode cX7_reaches 56 = .ok (.istore_n 2, 1) := by decide +kernel
theorem dX7_reaches_57 : decode cX7_reaches 57 = .ok (.iinc 3 1, 3) := by decide +kernel
theorem dX7_reaches_60 : decode cX7_reaches 60 = .ok (.goto (-56), 3) := by decide +kernel
theorem dX7_reaches_63 : decode cX7_reaches 63 = .ok (.iload_n 2, 1) := by decide +kernel
theorem dX7_reaches_64 : decode cX7_reaches 64 = .ok (.ireturn, 1) := by decide +kernel
set_option maxRecDepth 20000 in
theorem ggX7_thinnest_X7_isThin : GoodIn wsX7_thinnest wsX7_isThin := goodIn_r _ [6, 1, 7, 8, 9, 10, 11, 12, 13, 14, 15, 16, 17, 18, 19, 20, 21, 22, 23, 24] (by decide +kernel) (by decide +kernel)
set_option maxRecDepth 20000 in
theorem gX7_thinnest_X7_isThin : GoodIn wsX7_thinnest (wsV RX7 93 RX7 yX7_isThin wsX7_isThin) := goodIn_app (goodIn_of _ (by decide +kernel)) ggX7_thinnest_X7_isThin
theorem dX7_thinnest_0 : decode cX7_thinnest 0 = .ok (.iconst (-1), 1) := by decide +kernel
theorem dX7_thinnest_1 : decode cX7_thinnest 1 = .ok (.istore_n 1, 1) := by decide +kernel
theorem dX7_thinnest_2 : decode cX7_thinnest 2 = .ok (.iconst 0, 1) := by decide +kernel
theorem dX7_thinnest_3 : decode cX7_thinnest 3 = .ok (.istore_n 2, 1) := by decide +kernel
theorem dX7_thinnest_4 : decode cX7_thinnest 4 = .ok (.iload_n 2, 1) := by decide +kernel
theorem dX7_thinnest_5 : decode cX7_thinnest 5 = .ok (.bipush 80, 2) := by decide +kernel
theorem dX7_thinnest_7 : decode cX7_thinnest 7 = .ok (.if_icmp .ge 42, 3) := by decide +kernel
theorem dX7_thinnest_10 : decode cX7_thinnest 10 = .ok (.aload_n 0, 1) := by decide +kernel
theorem dX7_thinnest_11 : decode cX7_thinnest 11 = .ok (.iload_n 2, 1) := by decide +kernel
theorem dX7_thinnest_12 : decode cX7_thinnest 12 = .ok (.invokevirtual 93, 3) := by decide +kernel
theorem dX7_thinnest_15 : decode cX7_thinnest 15 = .ok (.ifCond .eq 26, 3) := by decide +kernel
theorem dX7_thinnest_18 : decode cX7_thinnest 18 = .ok (.iload_n 1, 1) := by decide +kernel
theorem dX7_thinnest_19 : decode cX7_thinnest 19 = .ok (.ifCond .lt 18, 3) := by decide +kernel
theorem dX7_thinnest_22 : decode cX7_thinnest 22 = .ok (.aload_n 0, 1) := by decide +kernel
theorem dX7_thinnest_23 : decode cX7_thinnest 23 = .ok (.getfield 28, 3) := by decide +kernel
theorem dX7_thinnest_26 : decode cX7_thinnest 26 = .ok (.iload_n 2, 1) := by decide +kernel
theorem dX7_thinnest_27 : decode cX7_thinnest 27 = .ok (.iaload, 1) := by decide +kernel
theorem dX7_thinnest_28 : decode cX7_thinnest 28 = .ok (.aload_n 0, 1) := by decide +kernel
theorem dX7_thinnest_29 : decode cX7_thinnest 29 = .ok (.getfield 28, 3) := by decide +kernel
theorem dX7_thinnest_32 : decode cX7_thinnest 32 = .ok (.iload_n 1, 1) := by decide +kernel
theorem dX7_thinnest_33 : decode cX7_thinnest 33 = .ok (.iaload, 1) := by decide +kernel
theorem dX7_thinnest_34 : decode cX7_thinnest 34 = .ok (.if_icmp .ge 7, 3) := by decide +kernel
theorem dX7_thinnest_37 : decode cX7_thinnest 37 = .ok (.iload_n 2, 1) := by decide +kernel
theorem dX7_thinnest_38 : decode cX7_thinnest 38 = .ok (.goto 4, 3) := by decide +kernel
theorem dX7_thinnest_41 : decode cX7_thinnest 41 = .ok (.iload_n 1, 1) := by decide +kernel
theorem dX7_thinnest_42 : decode cX7_thinnest 42 = .ok (.istore_n 1, 1) := by decide +kernel
theorem dX7_thinnest_43 : decode cX7_thinnest 43 = .ok (.iinc 2 1, 3) := by decide +kernel
theorem dX7_thinnest_46 : decode cX7_thinnest 46 = .ok (.goto (-42), 3) := by decide +kernel
theorem dX7_thinnest_49 : decode cX7_thinnest 49 = .ok (.iload_n 1, 1) := by decide +kernel
theorem dX7_thinnest_50 : decode cX7_thinnest 50 = .ok (.ireturn, 1) := by decide +kernel
set_option maxRecDepth 20000 in
theorem ggX7_keyBy_X7_sumOf : GoodIn wsX7_keyBy wsX7_sumOf := goodIn_r _ [7, 8, 9, 10, 11, 12, 13, 14, 15, 16, 17, 18, 19, 20, 21, 22, 23, 24, 25] (by decide +kernel) (by decide +kernel)
set_option maxRecDepth 20000 in
theorem gX7_keyBy_X7_sumOf : GoodIn wsX7_keyBy (wsV RX7 57 RX7 yX7_sumOf wsX7_sumOf) := goodIn_app (goodIn_of _ (by decide +kernel)) ggX7_keyBy_X7_sumOf
theorem dX7_keyBy_0 : decode cX7_keyBy 0 = .ok (.iload_n 1, 1) := by decide +kernel
theorem dX7_keyBy_1 : decode cX7_keyBy 1 = .ok (.iconst 1, 1) := by decide +kernel
theorem dX7_keyBy_2 : decode cX7_keyBy 2 = .ok (.if_icmp .ne 11, 3) := by decide +kernel
theorem dX7_keyBy_5 : decode cX7_keyBy 5 = .ok (.aload_n 0, 1) := by decide +kernel
theorem dX7_keyBy_6 : decode cX7_keyBy 6 = .ok (.iload_n 2, 1) := by decide +kernel
theorem dX7_keyBy_7 : decode cX7_keyBy 7 = .ok (.invokevirtual 57, 3) := by decide +kernel
theorem dX7_keyBy_10 : decode cX7_keyBy 10 = .ok (.goto 47, 3) := by decide +kernel
theorem dX7_keyBy_13 : decode cX7_keyBy 13 = .ok (.iload_n 1, 1) := by decide +kernel
theorem dX7_keyBy_14 : decode cX7_keyBy 14 = .ok (.iconst 2, 1) := by decide +kernel
theorem dX7_keyBy_15 : decode cX7_keyBy 15 = .ok (.if_icmp .ne 13, 3) := by decide +kernel
theorem dX7_keyBy_18 : decode cX7_keyBy 18 = .ok (.aload_n 0, 1) := by decide +kernel
theorem dX7_keyBy_19 : decode cX7_keyBy 19 = .ok (.getfield 31, 3) := by decide +kernel
theorem dX7_keyBy_22 : decode cX7_keyBy 22 = .ok (.iload_n 2, 1) := by decide +kernel
theorem dX7_keyBy_23 : decode cX7_keyBy 23 = .ok (.iaload, 1) := by decide +kernel
theorem dX7_keyBy_24 : decode cX7_keyBy 24 = .ok (.ineg, 1) := by decide +kernel
theorem dX7_keyBy_25 : decode cX7_keyBy 25 = .ok (.goto 32, 3) := by decide +kernel
theorem dX7_keyBy_28 : decode cX7_keyBy 28 = .ok (.iload_n 1, 1) := by decide +kernel
theorem dX7_keyBy_29 : decode cX7_keyBy 29 = .ok (.iconst 3, 1) := by decide +kernel
theorem dX7_keyBy_30 : decode cX7_keyBy 30 = .ok (.if_icmp .ne 26, 3) := by decide +kernel
theorem dX7_keyBy_33 : decode cX7_keyBy 33 = .ok (.aload_n 0, 1) := by decide +kernel
theorem dX7_keyBy_34 : decode cX7_keyBy 34 = .ok (.getfield 43, 3) := by decide +kernel
theorem dX7_keyBy_37 : decode cX7_keyBy 37 = .ok (.iconst 1, 1) := by decide +kernel
theorem dX7_keyBy_38 : decode cX7_keyBy 38 = .ok (.iaload, 1) := by decide +kernel
theorem dX7_keyBy_39 : decode cX7_keyBy 39 = .ok (.aload_n 0, 1) := by decide +kernel
theorem dX7_keyBy_40 : decode cX7_keyBy 40 = .ok (.getfield 43, 3) := by decide +kernel
theorem dX7_keyBy_43 : decode cX7_keyBy 43 = .ok (.iconst 2, 1) := by decide +kernel
theorem dX7_keyBy_44 : decode cX7_keyBy 44 = .ok (.iaload, 1) := by decide +kernel
theorem dX7_keyBy_45 : decode cX7_keyBy 45 = .ok (.iadd, 1) := by decide +kernel
theorem dX7_keyBy_46 : decode cX7_keyBy 46 = .ok (.aload_n 0, 1) := by decide +kernel
theorem dX7_keyBy_47 : decode cX7_keyBy 47 = .ok (.getfield 43, 3) := by decide +kernel
theorem dX7_keyBy_50 : decode cX7_keyBy 50 = .ok (.iconst 3, 1) := by decide +kernel
theorem dX7_keyBy_51 : decode cX7_keyBy 51 = .ok (.iaload, 1) := by decide +kernel
theorem dX7_keyBy_52 : decode cX7_keyBy 52 = .ok (.iadd, 1) := by decide +kernel
theorem dX7_keyBy_53 : decode cX7_keyBy 53 = .ok (.goto 4, 3) := by decide +kernel
theorem dX7_keyBy_56 : decode cX7_keyBy 56 = .ok (.iconst 0, 1) := by decide +kernel
theorem dX7_keyBy_57 : decode cX7_keyBy 57 = .ok (.ireturn, 1) := by decide +kernel
set_option maxRecDepth 20000 in
theorem ggX7_nextBy_X7_lays : GoodIn wsX7_nextBy wsX7_lays := goodIn_r _ [5, 6, 7, 8, 4, 9, 10, 11, 12, 13, 14, 15, 16, 17, 18, 19, 20, 21, 22, 23, 24, 25, 26, 27, 28, 29, 30, 31, 32, 33, 34, 35, 36, 37, 38, 39, 40, 41, 42, 78, 79, 80, 81, 82, 83, 84, 85, 86, 87, 88, 89, 90, 91, 92, 93, 94] (by decide +kernel) (by decide +kernel)
set_option maxRecDepth 20000 in
theorem gX7_nextBy_X7_lays : GoodIn wsX7_nextBy (wsV RX7 122 RX7 yX7_lays wsX7_lays) := goodIn_app (goodIn_of _ (by decide +kernel)) ggX7_nextBy_X7_lays
set_option maxRecDepth 20000 in
theorem ggX7_nextBy_X7_thinnest : GoodIn wsX7_nextBy wsX7_thinnest := goodIn_r _ [46, 10, 26, 27, 28, 4, 29, 11, 78, 79, 80, 81, 82, 83, 84, 85, 86, 87, 88, 89, 90, 91, 92, 93, 94] (by decide +kernel) (by decide +kernel)
set_option maxRecDepth 20000 in
theorem gX7_nextBy_X7_thinnest : GoodIn wsX7_nextBy (wsV RX7 141 RX7 yX7_thinnest wsX7_thinnest) := goodIn_app (goodIn_of _ (by decide +kernel)) ggX7_nextBy_X7_thinnest
set_option maxRecDepth 20000 in
theorem ggX7_nextBy_X7_may : GoodIn wsX7_nextBy wsX7_may := goodIn_r _ [50, 51, 52, 53, 34, 11, 20, 10, 54, 55, 56, 4, 57, 58, 35, 36, 37, 38, 39, 40, 41, 42, 16, 17, 18, 19, 59, 60, 61, 62, 78, 79, 80, 81, 82, 83, 84, 85, 86, 87, 88, 89, 90, 91, 92, 93, 94] (by decide +kernel) (by decide +kernel)
set_option maxRecDepth 20000 in
theorem gX7_nextBy_X7_may : GoodIn wsX7_nextBy (wsV RX7 125 RX7 yX7_may wsX7_may) := goodIn_app (goodIn_of _ (by decide +kernel)) ggX7_nextBy_X7_may
set_option maxRecDepth 20000 in
theorem ggX7_nextBy_X7_reaches : GoodIn wsX7_nextBy wsX7_reaches := goodIn_r _ [66, 52, 25, 53, 67, 68, 69, 4, 70, 11, 71, 72, 73, 78, 79, 80, 81, 82, 83, 84, 85, 86, 87, 88, 89, 90, 91, 92, 93, 94] (by decide +kernel) (by decide +kernel)
set_option maxRecDepth 20000 in
theorem gX7_nextBy_X7_reaches : GoodIn wsX7_nextBy (wsV RX7 144 RX7 yX7_reaches wsX7_reaches) := goodIn_app (goodIn_of _ (by decide +kernel)) ggX7_nextBy_X7_reaches
set_option maxRecDepth 20000 in
theorem ggX7_nextBy_X7_keyBy : GoodIn wsX7_nextBy wsX7_keyBy := goodIn_r _ [77, 25, 51, 16, 17, 18, 4, 19, 20, 78, 79, 80, 81, 82, 83, 84, 85, 86, 87, 88, 89, 90, 91, 92, 93, 94] (by decide +kernel) (by decide +kernel)
set_option maxRecDepth 20000 in
theorem gX7_nextBy_X7_keyBy : GoodIn wsX7_nextBy (wsV RX7 147 RX7 yX7_keyBy wsX7_keyBy) := goodIn_app (goodIn_of _ (by decide +kernel)) ggX7_nextBy_X7_keyBy
set_option maxRecDepth 20000 in
theorem ggX7_nextBy_X7_marks : GoodIn wsX7_nextBy wsX7_marks := goodIn_r _ [57, 20, 52, 58, 53, 78, 79, 80, 81, 82, 83, 84, 85, 86, 87, 88, 89, 90, 91, 92, 93, 94] (by decide +kernel) (by decide +kernel)
set_option maxRecDepth 20000 in
theorem gX7_nextBy_X7_marks : GoodIn wsX7_nextBy (wsV RX7 115 RX7 yX7_marks wsX7_marks) := goodIn_app (goodIn_of _ (by decide +kernel)) ggX7_nextBy_X7_marks
theorem dX7_nextBy_0 : decode cX7_nextBy 0 = .ok (.aload_n 0, 1) := by decide +kernel
theorem dX7_nextBy_1 : decode cX7_nextBy 1 = .ok (.invokevirtual 122, 3) := by decide +kernel
theorem dX7_nextBy_4 : decode cX7_nextBy 4 = .ok (.aload_n 0, 1) := by decide +kernel
theorem dX7_nextBy_5 : decode cX7_nextBy 5 = .ok (.invokevirtual 141, 3) := by decide +kernel
theorem dX7_nextBy_8 : decode cX7_nextBy 8 = .ok (.istore_n 2, 1) := by decide +kernel
theorem dX7_nextBy_9 : decode cX7_nextBy 9 = .ok (.iconst (-1), 1) := by decide +kernel
theorem dX7_nextBy_10 : decode cX7_nextBy 10 = .ok (.istore_n 3, 1) := by decide +kernel
theorem dX7_nextBy_11 : decode cX7_nextBy 11 = .ok (.iconst 0, 1) := by decide +kernel
theorem dX7_nextBy_12 : decode cX7_nextBy 12 = .ok (.istore 4, 2) := by decide +kernel
theorem dX7_nextBy_14 : decode cX7_nextBy 14 = .ok (.iconst 0, 1) := by decide +kernel
theorem dX7_nextBy_15 : decode cX7_nextBy 15 = .ok (.istore 5, 2) := by decide +kernel
theorem dX7_nextBy_17 : decode cX7_nextBy 17 = .ok (.iload 5, 2) := by decide +kernel
theorem dX7_nextBy_19 : decode cX7_nextBy 19 = .ok (.bipush 80, 2) := by decide +kernel
theorem dX7_nextBy_21 : decode cX7_nextBy 21 = .ok (.if_icmp .ge 67, 3) := by decide +kernel
theorem dX7_nextBy_24 : decode cX7_nextBy 24 = .ok (.iload_n 2, 1) := by decide +kernel
theorem dX7_nextBy_25 : decode cX7_nextBy 25 = .ok (.ifCond .lt 63, 3) := by decide +kernel
theorem dX7_nextBy_28 : decode cX7_nextBy 28 = .ok (.aload_n 0, 1) := by decide +kernel
theorem dX7_nextBy_29 : decode cX7_nextBy 29 = .ok (.iload 5, 2) := by decide +kernel
theorem dX7_nextBy_31 : decode cX7_nextBy 31 = .ok (.invokevirtual 125, 3) := by decide +kernel
theorem dX7_nextBy_34 : decode cX7_nextBy 34 = .ok (.ifCond .eq 48, 3) := by decide +kernel
theorem dX7_nextBy_37 : decode cX7_nextBy 37 = .ok (.aload_n 0, 1) := by decide +kernel
theorem dX7_nextBy_38 : decode cX7_nextBy 38 = .ok (.iload_n 1, 1) := by decide +kernel
theorem dX7_nextBy_39 : decode cX7_nextBy 39 = .ok (.iconst 4, 1) := by decide +kernel
theorem dX7_nextBy_40 : decode cX7_nextBy 40 = .ok (.if_icmp .ne 7, 3) := by decide +kernel
theorem dX7_nextBy_43 : decode cX7_nextBy 43 = .ok (.iload_n 2, 1) := by decide +kernel
theorem dX7_nextBy_44 : decode cX7_nextBy 44 = .ok (.goto 4, 3) := by decide +kernel
theorem dX7_nextBy_47 : decode cX7_nextBy 47 = .ok (.iconst (-1), 1) := by decide +kernel
theorem dX7_nextBy_48 : decode cX7_nextBy 48 = .ok (.invokevirtual 144, 3) := by decide +kernel
theorem dX7_nextBy_51 : decode cX7_nextBy 51 = .ok (.ifCond .eq 31, 3) := by decide +kernel
theorem dX7_nextBy_54 : decode cX7_nextBy 54 = .ok (.aload_n 0, 1) := by decide +kernel
theorem dX7_nextBy_55 : decode cX7_nextBy 55 = .ok (.iload_n 1, 1) := by decide +kernel
theorem dX7_nextBy_56 : decode cX7_nextBy 56 = .ok (.iload 5, 2) := by decide +kernel
theorem dX7_nextBy_58 : decode cX7_nextBy 58 = .ok (.invokevirtual 147, 3) := by decide +kernel
theorem dX7_nextBy_61 : decode cX7_nextBy 61 = .ok (.istore 6, 2) := by decide +kernel
theorem dX7_nextBy_63 : decode cX7_nextBy 63 = .ok (.iload_n 3, 1) := by decide +kernel
theorem dX7_nextBy_64 : decode cX7_nextBy 64 = .ok (.iconst (-1), 1) := by decide +kernel
theorem dX7_nextBy_65 : decode cX7_nextBy 65 = .ok (.if_icmp .eq 10, 3) := by decide +kernel
theorem dX7_nextBy_68 : decode cX7_nextBy 68 = .ok (.iload 6, 2) := by decide +kernel
theorem dX7_nextBy_70 : decode cX7_nextBy 70 = .ok (.iload 4, 2) := by decide +kernel
theorem dX7_nextBy_72 : decode cX7_nextBy 72 = .ok (.if_icmp .ge 10, 3) := by decide +kernel
theorem dX7_nextBy_75 : decode cX7_nextBy 75 = .ok (.iload 5, 2) := by decide +kernel
theorem dX7_nextBy_77 : decode cX7_nextBy 77 = .ok (.istore_n 3, 1) := by decide +kernel
theorem dX7_nextBy_78 : decode cX7_nextBy 78 = .ok (.iload 6, 2) := by decide +kernel
theorem dX7_nextBy_80 : decode cX7_nextBy 80 = .ok (.istore 4, 2) := by decide +kernel
theorem dX7_nextBy_82 : decode cX7_nextBy 82 = .ok (.iinc 5 1, 3) := by decide +kernel
theorem dX7_nextBy_85 : decode cX7_nextBy 85 = .ok (.goto (-68), 3) := by decide +kernel
theorem dX7_nextBy_88 : decode cX7_nextBy 88 = .ok (.iload_n 3, 1) := by decide +kernel
theorem dX7_nextBy_89 : decode cX7_nextBy 89 = .ok (.iconst (-1), 1) := by decide +kernel
theorem dX7_nextBy_90 : decode cX7_nextBy 90 = .ok (.if_icmp .eq 8, 3) := by decide +kernel
theorem dX7_nextBy_93 : decode cX7_nextBy 93 = .ok (.aload_n 0, 1) := by decide +kernel
theorem dX7_nextBy_94 : decode cX7_nextBy 94 = .ok (.iload_n 3, 1) := by decide +kernel
theorem dX7_nextBy_95 : decode cX7_nextBy 95 = .ok (.invokevirtual 115, 3) := by decide +kernel
theorem dX7_nextBy_98 : decode cX7_nextBy 98 = .ok (.iload_n 3, 1) := by decide +kernel
theorem dX7_nextBy_99 : decode cX7_nextBy 99 = .ok (.ireturn, 1) := by decide +kernel
set_option maxRecDepth 20000 in
theorem ggX7_next_X7_nextBy : GoodIn wsX7_next wsX7_nextBy := goodIn_r _ [6, 7, 8, 9, 5, 10, 11, 12, 13, 14, 15, 1, 16, 17, 18, 19, 20, 21, 22, 23, 24, 25, 26, 27, 28, 29, 30, 31, 32, 33, 34, 35, 36, 37, 38, 39, 40, 41, 42, 43, 44, 45, 46, 47, 48, 49, 50, 51, 52, 53, 54, 55, 56, 57, 58, 59, 60, 61, 62, 63, 64, 65, 66, 67, 68, 69, 70, 71, 72, 73, 74, 75, 76, 77, 78, 79, 80, 81, 82, 83, 84, 85, 86, 87, 88, 89, 90, 91, 92, 93, 94, 95, 96, 97, 98] (by decide +kernel) (by decide +kernel)
set_option maxRecDepth 20000 in
theorem gX7_next_X7_nextBy : GoodIn wsX7_next (wsV RX7 151 RX7 yX7_nextBy wsX7_nextBy) := goodIn_app (goodIn_of _ (by decide +kernel)) ggX7_next_X7_nextBy
theorem dX7_next_0 : decode cX7_next 0 = .ok (.aload_n 0, 1) := by decide +kernel
theorem dX7_next_1 : decode cX7_next 1 = .ok (.aload_n 0, 1) := by decide +kernel
theorem dX7_next_2 : decode cX7_next 2 = .ok (.getfield 19, 3) := by decide +kernel
theorem dX7_next_5 : decode cX7_next 5 = .ok (.bipush 7, 2) := by decide +kernel
theorem dX7_next_7 : decode cX7_next 7 = .ok (.iaload, 1) := by decide +kernel
theorem dX7_next_8 : decode cX7_next 8 = .ok (.invokevirtual 151, 3) := by decide +kernel
theorem dX7_next_11 : decode cX7_next 11 = .ok (.ireturn, 1) := by decide +kernel
set_option maxRecDepth 20000 in
theorem ggX7_stepsBy_X7_nextBy : GoodIn wsX7_stepsBy wsX7_nextBy := goodIn_r _ [5, 6, 7, 8, 4, 9, 10, 11, 12, 13, 14, 15, 16, 17, 18, 19, 20, 21, 22, 23, 24, 25, 26, 27, 28, 29, 30, 31, 32, 33, 34, 35, 36, 37, 38, 39, 40, 41, 42, 43, 44, 45, 46, 47, 48, 49, 50, 51, 52, 53, 54, 55, 56, 57, 58, 59, 60, 61, 62, 63, 64, 65, 66, 67, 68, 69, 70, 71, 72, 73, 74, 75, 76, 77, 78, 79, 80, 81, 86, 87, 88, 89, 90, 91, 92, 93, 94, 95, 96, 97, 98, 99, 100, 101, 102] (by decide +kernel) (by decide +kernel)
set_option maxRecDepth 20000 in
theorem gX7_stepsBy_X7_nextBy : GoodIn wsX7_stepsBy (wsV RX7 151 RX7 yX7_nextBy wsX7_nextBy) := goodIn_app (goodIn_of _ (by decide +kernel)) ggX7_stepsBy_X7_nextBy
set_option maxRecDepth 20000 in
theorem ggX7_stepsBy_X7_fills : GoodIn wsX7_stepsBy wsX7_fills := goodIn_r _ [85, 24, 62, 86, 87, 88, 89, 90, 91, 92, 93, 94, 95, 96, 97, 98, 99, 100, 101, 102] (by decide +kernel) (by decide +kernel)
set_option maxRecDepth 20000 in
theorem gX7_stepsBy_X7_fills : GoodIn wsX7_stepsBy (wsV RX7 135 RX7 yX7_fills wsX7_fills) := goodIn_app (goodIn_of _ (by decide +kernel)) ggX7_stepsBy_X7_fills
theorem dX7_stepsBy_0 : decode cX7_stepsBy 0 = .ok (.iconst 0, 1) := by decide +kernel
theorem dX7_stepsBy_1 : decode cX7_stepsBy 1 = .ok (.istore_n 3, 1) := by decide +kernel
theorem dX7_stepsBy_2 : decode cX7_stepsBy 2 = .ok (.iload_n 3, 1) := by decide +kernel
theorem dX7_stepsBy_3 : decode cX7_stepsBy 3 = .ok (.iload_n 2, 1) := by decide +kernel
theorem dX7_stepsBy_4 : decode cX7_stepsBy 4 = .ok (.if_icmp .ge 23, 3) := by decide +kernel
theorem dX7_stepsBy_7 : decode cX7_stepsBy 7 = .ok (.aload_n 0, 1) := by decide +kernel
theorem dX7_stepsBy_8 : decode cX7_stepsBy 8 = .ok (.iload_n 1, 1) := by decide +kernel
theorem dX7_stepsBy_9 : decode cX7_stepsBy 9 = .ok (.invokevirtual 151, 3) := by decide +kernel
theorem dX7_stepsBy_12 : decode cX7_stepsBy 12 = .ok (.iconst (-1), 1) := by decide +kernel
theorem dX7_stepsBy_13 : decode cX7_stepsBy 13 = .ok (.if_icmp .eq 14, 3) := by decide +kernel
theorem dX7_stepsBy_16 : decode cX7_stepsBy 16 = .ok (.aload_n 0, 1) := by decide +kernel
theorem dX7_stepsBy_17 : decode cX7_stepsBy 17 = .ok (.iconst 1, 1) := by decide +kernel
theorem dX7_stepsBy_18 : decode cX7_stepsBy 18 = .ok (.invokevirtual 135, 3) := by decide +kernel
theorem dX7_stepsBy_21 : decode cX7_stepsBy 21 = .ok (.iinc 3 1, 3) := by decide +kernel
theorem dX7_stepsBy_24 : decode cX7_stepsBy 24 = .ok (.goto (-22), 3) := by decide +kernel
theorem dX7_stepsBy_27 : decode cX7_stepsBy 27 = .ok (.iload_n 3, 1) := by decide +kernel
theorem dX7_stepsBy_28 : decode cX7_stepsBy 28 = .ok (.ireturn, 1) := by decide +kernel
set_option maxRecDepth 20000 in
theorem ggX7_steps_X7_in : GoodIn wsX7_steps wsX7_in := goodIn_r _ [5] (by decide +kernel) (by decide +kernel)
set_option maxRecDepth 20000 in
theorem gX7_steps_X7_in : GoodIn wsX7_steps (va_wsS RX7 49 yX7_in wsX7_in) := goodIn_app (goodIn_of _ (by decide +kernel)) ggX7_steps_X7_in
set_option maxRecDepth 20000 in
theorem ggX7_steps_X7_refuses : GoodIn wsX7_steps wsX7_refuses := goodIn_r _ [9, 10, 106, 107, 108, 109, 110, 111, 112, 113, 114, 115, 116, 117, 118, 119, 120, 121, 122] (by decide +kernel) (by decide +kernel)
set_option maxRecDepth 20000 in
theorem gX7_steps_X7_refuses : GoodIn wsX7_steps (wsV RX7 65 RX7 yX7_refuses wsX7_refuses) := goodIn_app (goodIn_of _ (by decide +kernel)) ggX7_steps_X7_refuses
set_option maxRecDepth 20000 in
theorem ggX7_steps_X7_aside : GoodIn wsX7_steps wsX7_aside := goodIn_r _ [14, 15, 16, 106, 107, 108, 109, 110, 111, 112, 113, 114, 115, 116, 117, 118, 119, 120, 121, 122] (by decide +kernel) (by decide +kernel)
set_option maxRecDepth 20000 in
theorem gX7_steps_X7_aside : GoodIn wsX7_steps (wsV RX7 68 RX7 yX7_aside wsX7_aside) := goodIn_app (goodIn_of _ (by decide +kernel)) ggX7_steps_X7_aside
set_option maxRecDepth 20000 in
theorem ggX7_steps_X7_stepsBy : GoodIn wsX7_steps wsX7_stepsBy := goodIn_r _ [20, 21, 22, 23, 4, 24, 25, 26, 27, 28, 29, 30, 31, 32, 33, 1, 34, 35, 36, 37, 38, 39, 40, 41, 16, 42, 43, 44, 45, 46, 47, 48, 49, 50, 51, 52, 53, 54, 55, 56, 57, 58, 59, 60, 61, 62, 63, 64, 65, 66, 67, 68, 69, 70, 71, 72, 73, 74, 75, 76, 77, 78, 79, 80, 81, 82, 83, 84, 85, 86, 87, 88, 89, 90, 91, 2, 3, 5, 92, 93, 94, 95, 96, 97, 98, 99, 106, 107, 108, 109, 110, 111, 112, 113, 114, 115, 116, 117, 118, 119, 120, 121, 122] (by decide +kernel) (by decide +kernel)
set_option maxRecDepth 20000 in
theorem gX7_steps_X7_stepsBy : GoodIn wsX7_steps (wsV RX7 154 RX7 yX7_stepsBy wsX7_stepsBy) := goodIn_app (goodIn_of _ (by decide +kernel)) ggX7_steps_X7_stepsBy
set_option maxRecDepth 20000 in
theorem ggX7_steps_X7_keeps : GoodIn wsX7_steps wsX7_keeps := goodIn_r _ [103, 104, 105, 15, 106, 107, 108, 109, 110, 111, 112, 113, 114, 115, 116, 117, 118, 119, 120, 121, 122] (by decide +kernel) (by decide +kernel)
set_option maxRecDepth 20000 in
theorem gX7_steps_X7_keeps : GoodIn wsX7_steps (wsV RX7 71 RX7 yX7_keeps wsX7_keeps) := goodIn_app (goodIn_of _ (by decide +kernel)) ggX7_steps_X7_keeps
theorem dX7_steps_0 : decode cX7_steps 0 = .ok (.iload_n 1, 1) := by decide +kernel
theorem dX7_steps_1 : decode cX7_steps 1 = .ok (.iconst 1, 1) := by decide +kernel
theorem dX7_steps_2 : decode cX7_steps 2 = .ok (.bipush 60, 2) := by decide +kernel
theorem dX7_steps_4 : decode cX7_steps 4 = .ok (.invokestatic 49, 3) := by decide +kernel
theorem dX7_steps_7 : decode cX7_steps 7 = .ok (.ifCond .ne 10, 3) := by decide +kernel
theorem dX7_steps_10 : decode cX7_steps 10 = .ok (.aload_n 0, 1) := by decide +kernel
theorem dX7_steps_11 : decode cX7_steps 11 = .ok (.bipush (-2), 2) := by decide +kernel
theorem dX7_steps_13 : decode cX7_steps 13 = .ok (.invokevirtual 65, 3) := by decide +kernel
theorem dX7_steps_16 : decode cX7_steps 16 = .ok (.ireturn, 1) := by decide +kernel
theorem dX7_steps_17 : decode cX7_steps 17 = .ok (.aload_n 0, 1) := by decide +kernel
theorem dX7_steps_18 : decode cX7_steps 18 = .ok (.invokevirtual 68, 3) := by decide +kernel
theorem dX7_steps_21 : decode cX7_steps 21 = .ok (.aload_n 0, 1) := by decide +kernel
theorem dX7_steps_22 : decode cX7_steps 22 = .ok (.aload_n 0, 1) := by decide +kernel
theorem dX7_steps_23 : decode cX7_steps 23 = .ok (.getfield 19, 3) := by decide +kernel
theorem dX7_steps_26 : decode cX7_steps 26 = .ok (.bipush 7, 2) := by decide +kernel
theorem dX7_steps_28 : decode cX7_steps 28 = .ok (.iaload, 1) := by decide +kernel
theorem dX7_steps_29 : decode cX7_steps 29 = .ok (.iload_n 1, 1) := by decide +kernel
theorem dX7_steps_30 : decode cX7_steps 30 = .ok (.invokevirtual 154, 3) := by decide +kernel
theorem dX7_steps_33 : decode cX7_steps 33 = .ok (.istore_n 2, 1) := by decide +kernel
theorem dX7_steps_34 : decode cX7_steps 34 = .ok (.iload_n 2, 1) := by decide +kernel
theorem dX7_steps_35 : decode cX7_steps 35 = .ok (.ifCond .le 7, 3) := by decide +kernel
theorem dX7_steps_38 : decode cX7_steps 38 = .ok (.aload_n 0, 1) := by decide +kernel
theorem dX7_steps_39 : decode cX7_steps 39 = .ok (.invokevirtual 71, 3) := by decide +kernel
theorem dX7_steps_42 : decode cX7_steps 42 = .ok (.iload_n 2, 1) := by decide +kernel
theorem dX7_steps_43 : decode cX7_steps 43 = .ok (.ireturn, 1) := by decide +kernel
set_option maxRecDepth 20000 in
theorem ggX7_mayLose_X7_laysSums : GoodIn wsX7_mayLose wsX7_laysSums := goodIn_r _ [7, 1, 2, 8, 9, 10, 6, 11, 12, 13, 14, 15, 16, 22, 23, 24, 25, 26, 27, 28, 29, 30, 31, 32, 33, 34, 35, 36, 37, 38] (by decide +kernel) (by decide +kernel)
set_option maxRecDepth 20000 in
theorem gX7_mayLose_X7_laysSums : GoodIn wsX7_mayLose (wsV RX7 103 RX7 yX7_laysSums wsX7_laysSums) := goodIn_app (goodIn_of _ (by decide +kernel)) ggX7_mayLose_X7_laysSums
set_option maxRecDepth 20000 in
theorem ggX7_mayLose_X7_manyIn : GoodIn wsX7_mayLose wsX7_manyIn := goodIn_r _ [20, 2, 21, 22, 23, 24, 25, 26, 27, 28, 29, 30, 31, 32, 33, 34, 35, 36, 37, 38] (by decide +kernel) (by decide +kernel)
set_option maxRecDepth 20000 in
theorem gX7_mayLose_X7_manyIn : GoodIn wsX7_mayLose (wsV RX7 119 RX7 yX7_manyIn wsX7_manyIn) := goodIn_app (goodIn_of _ (by decide +kernel)) ggX7_mayLose_X7_manyIn
theorem dX7_mayLose_0 : decode cX7_mayLose 0 = .ok (.aload_n 0, 1) := by decide +kernel
theorem dX7_mayLose_1 : decode cX7_mayLose 1 = .ok (.invokevirtual 103, 3) := by decide +kernel
theorem dX7_mayLose_4 : decode cX7_mayLose 4 = .ok (.iconst 1, 1) := by decide +kernel
theorem dX7_mayLose_5 : decode cX7_mayLose 5 = .ok (.istore_n 1, 1) := by decide +kernel
theorem dX7_mayLose_6 : decode cX7_mayLose 6 = .ok (.iconst 0, 1) := by decide +kernel
theorem dX7_mayLose_7 : decode cX7_mayLose 7 = .ok (.istore_n 2, 1) := by decide +kernel
theorem dX7_mayLose_8 : decode cX7_mayLose 8 = .ok (.iload_n 2, 1) := by decide +kernel
theorem dX7_mayLose_9 : decode cX7_mayLose 9 = .ok (.bipush 80, 2) := by decide +kernel
theorem dX7_mayLose_11 : decode cX7_mayLose 11 = .ok (.if_icmp .ge 55, 3) := by decide +kernel
theorem dX7_mayLose_14 : decode cX7_mayLose 14 = .ok (.iload_n 1, 1) := by decide +kernel
theorem dX7_mayLose_15 : decode cX7_mayLose 15 = .ok (.ifCond .eq 51, 3) := by decide +kernel
theorem dX7_mayLose_18 : decode cX7_mayLose 18 = .ok (.aload_n 0, 1) := by decide +kernel
theorem dX7_mayLose_19 : decode cX7_mayLose 19 = .ok (.getfield 28, 3) := by decide +kernel
theorem dX7_mayLose_22 : decode cX7_mayLose 22 = .ok (.iload_n 2, 1) := by decide +kernel
theorem dX7_mayLose_23 : decode cX7_mayLose 23 = .ok (.iaload, 1) := by decide +kernel
theorem dX7_mayLose_24 : decode cX7_mayLose 24 = .ok (.aload_n 0, 1) := by decide +kernel
theorem dX7_mayLose_25 : decode cX7_mayLose 25 = .ok (.getfield 19, 3) := by decide +kernel
theorem dX7_mayLose_28 : decode cX7_mayLose 28 = .ok (.iconst 2, 1) := by decide +kernel
theorem dX7_mayLose_29 : decode cX7_mayLose 29 = .ok (.iaload, 1) := by decide +kernel
theorem dX7_mayLose_30 : decode cX7_mayLose 30 = .ok (.if_icmp .lt 30, 3) := by decide +kernel
theorem dX7_mayLose_33 : decode cX7_mayLose 33 = .ok (.aload_n 0, 1) := by decide +kernel
theorem dX7_mayLose_34 : decode cX7_mayLose 34 = .ok (.getfield 28, 3) := by decide +kernel
theorem dX7_mayLose_37 : decode cX7_mayLose 37 = .ok (.iload_n 2, 1) := by decide +kernel
theorem dX7_mayLose_38 : decode cX7_mayLose 38 = .ok (.iaload, 1) := by decide +kernel
theorem dX7_mayLose_39 : decode cX7_mayLose 39 = .ok (.aload_n 0, 1) := by decide +kernel
theorem dX7_mayLose_40 : decode cX7_mayLose 40 = .ok (.iload_n 2, 1) := by decide +kernel
theorem dX7_mayLose_41 : decode cX7_mayLose 41 = .ok (.invokevirtual 119, 3) := by decide +kernel
theorem dX7_mayLose_44 : decode cX7_mayLose 44 = .ok (.isub, 1) := by decide +kernel
theorem dX7_mayLose_45 : decode cX7_mayLose 45 = .ok (.aload_n 0, 1) := by decide +kernel
theorem dX7_mayLose_46 : decode cX7_mayLose 46 = .ok (.getfield 19, 3) := by decide +kernel
theorem dX7_mayLose_49 : decode cX7_mayLose 49 = .ok (.iconst 2, 1) := by decide +kernel
theorem dX7_mayLose_50 : decode cX7_mayLose 50 = .ok (.iaload, 1) := by decide +kernel
theorem dX7_mayLose_51 : decode cX7_mayLose 51 = .ok (.if_icmp .lt 7, 3) := by decide +kernel
theorem dX7_mayLose_54 : decode cX7_mayLose 54 = .ok (.iconst 1, 1) := by decide +kernel
theorem dX7_mayLose_55 : decode cX7_mayLose 55 = .ok (.goto 4, 3) := by decide +kernel
theorem dX7_mayLose_58 : decode cX7_mayLose 58 = .ok (.iconst 0, 1) := by decide +kernel
theorem dX7_mayLose_59 : decode cX7_mayLose 59 = .ok (.istore_n 1, 1) := by decide +kernel
theorem dX7_mayLose_60 : decode cX7_mayLose 60 = .ok (.iinc 2 1, 3) := by decide +kernel
theorem dX7_mayLose_63 : decode cX7_mayLose 63 = .ok (.goto (-55), 3) := by decide +kernel
theorem dX7_mayLose_66 : decode cX7_mayLose 66 = .ok (.iload_n 1, 1) := by decide +kernel
theorem dX7_mayLose_67 : decode cX7_mayLose 67 = .ok (.ireturn, 1) := by decide +kernel
set_option maxRecDepth 20000 in
theorem ggX7_loses_X7_fillOf : GoodIn wsX7_loses wsX7_fillOf := goodIn_r _ [6, 1, 40, 41, 42, 43, 44, 45, 46, 47, 48, 49, 50, 51, 52, 53, 54, 55, 56] (by decide +kernel) (by decide +kernel)
set_option maxRecDepth 20000 in
theorem gX7_loses_X7_fillOf : GoodIn wsX7_loses (wsV RX7 86 RX7 yX7_fillOf wsX7_fillOf) := goodIn_app (goodIn_of _ (by decide +kernel)) ggX7_loses_X7_fillOf
set_option maxRecDepth 20000 in
theorem ggX7_loses_X7_marks : GoodIn wsX7_loses wsX7_marks := goodIn_r _ [10, 1, 11, 12, 13, 40, 41, 42, 43, 44, 45, 46, 47, 48, 49, 50, 51, 52, 53, 54, 55, 56] (by decide +kernel) (by decide +kernel)
set_option maxRecDepth 20000 in
theorem gX7_loses_X7_marks : GoodIn wsX7_loses (wsV RX7 115 RX7 yX7_marks wsX7_marks) := goodIn_app (goodIn_of _ (by decide +kernel)) ggX7_loses_X7_marks
set_option maxRecDepth 20000 in
theorem ggX7_loses_X7_mayLose : GoodIn wsX7_loses wsX7_mayLose := goodIn_r _ [17, 18, 19, 20, 21, 22, 5, 23, 24, 25, 26, 27, 28, 29, 30, 31, 1, 32, 33, 34, 35, 12, 40, 41, 42, 43, 44, 45, 46, 47, 48, 49, 50, 51, 52, 53, 54, 55, 56] (by decide +kernel) (by decide +kernel)
set_option maxRecDepth 20000 in
theorem gX7_loses_X7_mayLose : GoodIn wsX7_loses (wsV RX7 157 RX7 yX7_mayLose wsX7_mayLose) := goodIn_app (goodIn_of _ (by decide +kernel)) ggX7_loses_X7_mayLose
set_option maxRecDepth 20000 in
theorem ggX7_loses_X7_fills : GoodIn wsX7_loses wsX7_fills := goodIn_r _ [39, 1, 12, 40, 41, 42, 43, 44, 45, 46, 47, 48, 49, 50, 51, 52, 53, 54, 55, 56] (by decide +kernel) (by decide +kernel)
set_option maxRecDepth 20000 in
theorem gX7_loses_X7_fills : GoodIn wsX7_loses (wsV RX7 135 RX7 yX7_fills wsX7_fills) := goodIn_app (goodIn_of _ (by decide +kernel)) ggX7_loses_X7_fills
theorem dX7_loses_0 : decode cX7_loses 0 = .ok (.aload_n 0, 1) := by decide +kernel
theorem dX7_loses_1 : decode cX7_loses 1 = .ok (.invokevirtual 86, 3) := by decide +kernel
theorem dX7_loses_4 : decode cX7_loses 4 = .ok (.istore_n 1, 1) := by decide +kernel
theorem dX7_loses_5 : decode cX7_loses 5 = .ok (.bipush 79, 2) := by decide +kernel
theorem dX7_loses_7 : decode cX7_loses 7 = .ok (.istore_n 2, 1) := by decide +kernel
theorem dX7_loses_8 : decode cX7_loses 8 = .ok (.iload_n 2, 1) := by decide +kernel
theorem dX7_loses_9 : decode cX7_loses 9 = .ok (.ifCond .lt 42, 3) := by decide +kernel
theorem dX7_loses_12 : decode cX7_loses 12 = .ok (.aload_n 0, 1) := by decide +kernel
theorem dX7_loses_13 : decode cX7_loses 13 = .ok (.iload_n 2, 1) := by decide +kernel
theorem dX7_loses_14 : decode cX7_loses 14 = .ok (.invokevirtual 115, 3) := by decide +kernel
theorem dX7_loses_17 : decode cX7_loses 17 = .ok (.aload_n 0, 1) := by decide +kernel
theorem dX7_loses_18 : decode cX7_loses 18 = .ok (.getfield 7, 3) := by decide +kernel
theorem dX7_loses_21 : decode cX7_loses 21 = .ok (.sipush 320, 3) := by decide +kernel
theorem dX7_loses_24 : decode cX7_loses 24 = .ok (.iload_n 2, 1) := by decide +kernel
theorem dX7_loses_25 : decode cX7_loses 25 = .ok (.iadd, 1) := by decide +kernel
theorem dX7_loses_26 : decode cX7_loses 26 = .ok (.iaload, 1) := by decide +kernel
theorem dX7_loses_27 : decode cX7_loses 27 = .ok (.ifCond .le 18, 3) := by decide +kernel
theorem dX7_loses_30 : decode cX7_loses 30 = .ok (.aload_n 0, 1) := by decide +kernel
theorem dX7_loses_31 : decode cX7_loses 31 = .ok (.invokevirtual 157, 3) := by decide +kernel
theorem dX7_loses_34 : decode cX7_loses 34 = .ok (.ifCond .eq 11, 3) := by decide +kernel
theorem dX7_loses_37 : decode cX7_loses 37 = .ok (.aload_n 0, 1) := by decide +kernel
theorem dX7_loses_38 : decode cX7_loses 38 = .ok (.iconst (-1), 1) := by decide +kernel
theorem dX7_loses_39 : decode cX7_loses 39 = .ok (.invokevirtual 135, 3) := by decide +kernel
theorem dX7_loses_42 : decode cX7_loses 42 = .ok (.goto (-25), 3) := by decide +kernel
theorem dX7_loses_45 : decode cX7_loses 45 = .ok (.iinc 2 (-1), 3) := by decide +kernel
theorem dX7_loses_48 : decode cX7_loses 48 = .ok (.goto (-40), 3) := by decide +kernel
theorem dX7_loses_51 : decode cX7_loses 51 = .ok (.iload_n 1, 1) := by decide +kernel
theorem dX7_loses_52 : decode cX7_loses 52 = .ok (.aload_n 0, 1) := by decide +kernel
theorem dX7_loses_53 : decode cX7_loses 53 = .ok (.invokevirtual 86, 3) := by decide +kernel
theorem dX7_loses_56 : decode cX7_loses 56 = .ok (.isub, 1) := by decide +kernel
theorem dX7_loses_57 : decode cX7_loses 57 = .ok (.ireturn, 1) := by decide +kernel
set_option maxRecDepth 20000 in
theorem ggX7_thins_X7_aside : GoodIn wsX7_thins wsX7_aside := goodIn_r _ [5, 6, 7, 55, 56, 57, 58, 59, 60, 61, 62, 63, 64, 65, 66, 67, 68, 69, 70, 71] (by decide +kernel) (by decide +kernel)
set_option maxRecDepth 20000 in
theorem gX7_thins_X7_aside : GoodIn wsX7_thins (wsV RX7 68 RX7 yX7_aside wsX7_aside) := goodIn_app (goodIn_of _ (by decide +kernel)) ggX7_thins_X7_aside
set_option maxRecDepth 20000 in
theorem ggX7_thins_X7_loses : GoodIn wsX7_thins wsX7_loses := goodIn_r _ [11, 7, 12, 13, 14, 4, 15, 16, 17, 18, 19, 20, 21, 22, 23, 24, 25, 26, 27, 28, 29, 30, 31, 32, 33, 34, 35, 36, 37, 38, 39, 40, 41, 42, 43, 44, 45, 46, 47, 48, 55, 56, 57, 58, 59, 60, 61, 62, 63, 64, 65, 66, 67, 68, 69, 70, 71] (by decide +kernel) (by decide +kernel)
set_option maxRecDepth 20000 in
theorem gX7_thins_X7_loses : GoodIn wsX7_thins (wsV RX7 161 RX7 yX7_loses wsX7_loses) := goodIn_app (goodIn_of _ (by decide +kernel)) ggX7_thins_X7_loses
set_option maxRecDepth 20000 in
theorem ggX7_thins_X7_keeps : GoodIn wsX7_thins wsX7_keeps := goodIn_r _ [52, 53, 54, 6, 55, 56, 57, 58, 59, 60, 61, 62, 63, 64, 65, 66, 67, 68, 69, 70, 71] (by decide +kernel) (by decide +kernel)
set_option maxRecDepth 20000 in
theorem gX7_thins_X7_keeps : GoodIn wsX7_thins (wsV RX7 71 RX7 yX7_keeps wsX7_keeps) := goodIn_app (goodIn_of _ (by decide +kernel)) ggX7_thins_X7_keeps
theorem dX7_thins_0 : decode cX7_thins 0 = .ok (.aload_n 0, 1) := by decide +kernel
theorem dX7_thins_1 : decode cX7_thins 1 = .ok (.invokevirtual 68, 3) := by decide +kernel
theorem dX7_thins_4 : decode cX7_thins 4 = .ok (.aload_n 0, 1) := by decide +kernel
theorem dX7_thins_5 : decode cX7_thins 5 = .ok (.invokevirtual 161, 3) := by decide +kernel
theorem dX7_thins_8 : decode cX7_thins 8 = .ok (.istore_n 1, 1) := by decide +kernel
theorem dX7_thins_9 : decode cX7_thins 9 = .ok (.iload_n 1, 1) := by decide +kernel
theorem dX7_thins_10 : decode cX7_thins 10 = .ok (.ifCond .le 7, 3) := by decide +kernel
theorem dX7_thins_13 : decode cX7_thins 13 = .ok (.aload_n 0, 1) := by decide +kernel
theorem dX7_thins_14 : decode cX7_thins 14 = .ok (.invokevirtual 71, 3) := by decide +kernel
theorem dX7_thins_17 : decode cX7_thins 17 = .ok (.iload_n 1, 1) := by decide +kernel
theorem dX7_thins_18 : decode cX7_thins 18 = .ok (.ireturn, 1) := by decide +kernel
set_option maxRecDepth 20000 in
theorem ggX7_best_X7_in : GoodIn wsX7_best wsX7_in := goodIn_r _ [5] (by decide +kernel) (by decide +kernel)
set_option maxRecDepth 20000 in
theorem gX7_best_X7_in : GoodIn wsX7_best (va_wsS RX7 49 yX7_in wsX7_in) := goodIn_app (goodIn_of _ (by decide +kernel)) ggX7_best_X7_in
set_option maxRecDepth 20000 in
theorem ggX7_best_X7_refuses : GoodIn wsX7_best wsX7_refuses := goodIn_r _ [9, 10, 121, 122, 123, 124, 125, 126, 127, 128, 129, 130, 131, 132, 133, 134, 135, 136, 137] (by decide +kernel) (by decide +kernel)
set_option maxRecDepth 20000 in
theorem gX7_best_X7_refuses : GoodIn wsX7_best (wsV RX7 65 RX7 yX7_refuses wsX7_refuses) := goodIn_app (goodIn_of _ (by decide +kernel)) ggX7_best_X7_refuses
set_option maxRecDepth 20000 in
theorem ggX7_best_X7_aside : GoodIn wsX7_best wsX7_aside := goodIn_r _ [14, 15, 16, 121, 122, 123, 124, 125, 126, 127, 128, 129, 130, 131, 132, 133, 134, 135, 136, 137] (by decide +kernel) (by decide +kernel)
set_option maxRecDepth 20000 in
theorem gX7_best_X7_aside : GoodIn wsX7_best (wsV RX7 68 RX7 yX7_aside wsX7_aside) := goodIn_app (goodIn_of _ (by decide +kernel)) ggX7_best_X7_aside
set_option maxRecDepth 20000 in
theorem ggX7_best_X7_stepsBy : GoodIn wsX7_best wsX7_stepsBy := goodIn_r _ [20, 21, 22, 23, 4, 24, 25, 26, 27, 28, 29, 30, 31, 32, 33, 34, 35, 36, 37, 38, 39, 40, 41, 42, 16, 43, 44, 45, 46, 47, 48, 49, 50, 51, 52, 53, 54, 55, 56, 57, 58, 59, 60, 61, 62, 63, 64, 65, 66, 67, 68, 69, 70, 71, 72, 73, 74, 75, 76, 77, 78, 79, 80, 81, 82, 83, 84, 85, 86, 87, 88, 89, 90, 91, 92, 2, 3, 5, 93, 94, 95, 96, 97, 98, 99, 100, 121, 122, 123, 124, 125, 126, 127, 128, 129, 130, 131, 132, 133, 134, 135, 136, 137] (by decide +kernel) (by decide +kernel)
set_option maxRecDepth 20000 in
theorem gX7_best_X7_stepsBy : GoodIn wsX7_best (wsV RX7 154 RX7 yX7_stepsBy wsX7_stepsBy) := goodIn_app (goodIn_of _ (by decide +kernel)) ggX7_best_X7_stepsBy
set_option maxRecDepth 20000 in
theorem ggX7_best_X7_loses : GoodIn wsX7_best wsX7_loses := goodIn_r _ [104, 16, 105, 106, 107, 4, 108, 76, 77, 78, 79, 74, 80, 75, 109, 110, 111, 112, 33, 34, 29, 30, 31, 32, 35, 36, 37, 38, 39, 40, 41, 42, 81, 82, 83, 84, 97, 98, 99, 100, 121, 122, 123, 124, 125, 126, 127, 128, 129, 130, 131, 132, 133, 134, 135, 136, 137] (by decide +kernel) (by decide +kernel)
set_option maxRecDepth 20000 in
theorem gX7_best_X7_loses : GoodIn wsX7_best (wsV RX7 161 RX7 yX7_loses wsX7_loses) := goodIn_app (goodIn_of _ (by decide +kernel)) ggX7_best_X7_loses
set_option maxRecDepth 20000 in
theorem ggX7_best_X7_laysSums : GoodIn wsX7_best wsX7_laysSums := goodIn_r _ [32, 33, 34, 35, 36, 37, 4, 38, 39, 40, 41, 42, 16, 121, 122, 123, 124, 125, 126, 127, 128, 129, 130, 131, 132, 133, 134, 135, 136, 137] (by decide +kernel) (by decide +kernel)
set_option maxRecDepth 20000 in
theorem gX7_best_X7_laysSums : GoodIn wsX7_best (wsV RX7 103 RX7 yX7_laysSums wsX7_laysSums) := goodIn_app (goodIn_of _ (by decide +kernel)) ggX7_best_X7_laysSums
set_option maxRecDepth 20000 in
theorem ggX7_best_X7_windowsNow : GoodIn wsX7_best wsX7_windowsNow := goodIn_r _ [116, 33, 34, 48, 49, 50, 4, 51, 121, 122, 123, 124, 125, 126, 127, 128, 129, 130, 131, 132, 133, 134, 135, 136, 137] (by decide +kernel) (by decide +kernel)
set_option maxRecDepth 20000 in
theorem gX7_best_X7_windowsNow : GoodIn wsX7_best (wsV RX7 128 RX7 yX7_windowsNow wsX7_windowsNow) := goodIn_app (goodIn_of _ (by decide +kernel)) ggX7_best_X7_windowsNow
set_option maxRecDepth 20000 in
theorem ggX7_best_X7_fillOf : GoodIn wsX7_best wsX7_fillOf := goodIn_r _ [108, 16, 121, 122, 123, 124, 125, 126, 127, 128, 129, 130, 131, 132, 133, 134, 135, 136, 137] (by decide +kernel) (by decide +kernel)
set_option maxRecDepth 20000 in
theorem gX7_best_X7_fillOf : GoodIn wsX7_best (wsV RX7 86 RX7 yX7_fillOf wsX7_fillOf) := goodIn_app (goodIn_of _ (by decide +kernel)) ggX7_best_X7_fillOf
set_option maxRecDepth 20000 in
theorem ggX7_best_X7_back : GoodIn wsX7_best wsX7_back := goodIn_r _ [120, 16, 15, 121, 122, 123, 124, 125, 126, 127, 128, 129, 130, 131, 132, 133, 134, 135, 136, 137] (by decide +kernel) (by decide +kernel)
set_option maxRecDepth 20000 in
theorem gX7_best_X7_back : GoodIn wsX7_best (wsV RX7 164 RX7 yX7_back wsX7_back) := goodIn_app (goodIn_of _ (by decide +kernel)) ggX7_best_X7_back
theorem dX7_best_0 : decode cX7_best 0 = .ok (.iload_n 1, 1) := by decide +kernel
theorem dX7_best_1 : decode cX7_best 1 = .ok (.iconst 0, 1) := by decide +kernel
theorem dX7_best_2 : decode cX7_best 2 = .ok (.iconst 2, 1) := by decide +kernel
theorem dX7_best_3 : decode cX7_best 3 = .ok (.invokestatic 49, 3) := by decide +kernel
theorem dX7_best_6 : decode cX7_best 6 = .ok (.ifCond .ne 10, 3) := by decide +kernel
theorem dX7_best_9 : decode cX7_best 9 = .ok (.aload_n 0, 1) := by decide +kernel
theorem dX7_best_10 : decode cX7_best 10 = .ok (.bipush (-2), 2) := by decide +kernel
theorem dX7_best_12 : decode cX7_best 12 = .ok (.invokevirtual 65, 3) := by decide +kernel
theorem dX7_best_15 : decode cX7_best 15 = .ok (.ireturn, 1) := by decide +kernel
theorem dX7_best_16 : decode cX7_best 16 = .ok (.aload_n 0, 1) := by decide +kernel
theorem dX7_best_17 : decode cX7_best 17 = .ok (.invokevirtual 68, 3) := by decide +kernel
theorem dX7_best_20 : decode cX7_best 20 = .ok (.iconst 0, 1) := by decide +kernel
theorem dX7_best_21 : decode cX7_best 21 = .ok (.istore_n 2, 1) := by decide +kernel
theorem dX7_best_22 : decode cX7_best 22 = .ok (.iload_n 2, 1) := by decide +kernel
theorem dX7_best_23 : decode cX7_best 23 = .ok (.iconst 5, 1) := by decide +kernel
theorem dX7_best_24 : decode cX7_best 24 = .ok (.if_icmp .ge 68, 3) := by decide +kernel
theorem dX7_best_27 : decode cX7_best 27 = .ok (.aload_n 0, 1) := by decide +kernel
theorem dX7_best_28 : decode cX7_best 28 = .ok (.iload_n 2, 1) := by decide +kernel
theorem dX7_best_29 : decode cX7_best 29 = .ok (.bipush 40, 2) := by decide +kernel
theorem dX7_best_31 : decode cX7_best 31 = .ok (.invokevirtual 154, 3) := by decide +kernel
theorem dX7_best_34 : decode cX7_best 34 = .ok (.pop, 1) := by decide +kernel
theorem dX7_best_35 : decode cX7_best 35 = .ok (.aload_n 0, 1) := by decide +kernel
theorem dX7_best_36 : decode cX7_best 36 = .ok (.invokevirtual 161, 3) := by decide +kernel
theorem dX7_best_39 : decode cX7_best 39 = .ok (.pop, 1) := by decide +kernel
theorem dX7_best_40 : decode cX7_best 40 = .ok (.aload_n 0, 1) := by decide +kernel
theorem dX7_best_41 : decode cX7_best 41 = .ok (.invokevirtual 103, 3) := by decide +kernel
theorem dX7_best_44 : decode cX7_best 44 = .ok (.aload_n 0, 1) := by decide +kernel
theorem dX7_best_45 : decode cX7_best 45 = .ok (.getfield 46, 3) := by decide +kernel
theorem dX7_best_48 : decode cX7_best 48 = .ok (.iconst 3, 1) := by decide +kernel
theorem dX7_best_49 : decode cX7_best 49 = .ok (.iload_n 2, 1) := by decide +kernel
theorem dX7_best_50 : decode cX7_best 50 = .ok (.imul, 1) := by decide +kernel
theorem dX7_best_51 : decode cX7_best 51 = .ok (.iload_n 2, 1) := by decide +kernel
theorem dX7_best_52 : decode cX7_best 52 = .ok (.iastore, 1) := by decide +kernel
theorem dX7_best_53 : decode cX7_best 53 = .ok (.aload_n 0, 1) := by decide +kernel
theorem dX7_best_54 : decode cX7_best 54 = .ok (.getfield 46, 3) := by decide +kernel
theorem dX7_best_57 : decode cX7_best 57 = .ok (.iconst 3, 1) := by decide +kernel
theorem dX7_best_58 : decode cX7_best 58 = .ok (.iload_n 2, 1) := by decide +kernel
theorem dX7_best_59 : decode cX7_best 59 = .ok (.imul, 1) := by decide +kernel
theorem dX7_best_60 : decode cX7_best 60 = .ok (.iconst 1, 1) := by decide +kernel
theorem dX7_best_61 : decode cX7_best 61 = .ok (.iadd, 1) := by decide +kernel
theorem dX7_best_62 : decode cX7_best 62 = .ok (.aload_n 0, 1) := by decide +kernel
theorem dX7_best_63 : decode cX7_best 63 = .ok (.iconst 1, 1) := by decide +kernel
theorem dX7_best_64 : decode cX7_best 64 = .ok (.invokevirtual 128, 3) := by decide +kernel
theorem dX7_best_67 : decode cX7_best 67 = .ok (.iastore, 1) := by decide +kernel
theorem dX7_best_68 : decode cX7_best 68 = .ok (.aload_n 0, 1) := by decide +kernel
theorem dX7_best_69 : decode cX7_best 69 = .ok (.getfield 46, 3) := by decide +kernel
theorem dX7_best_72 : decode cX7_best 72 = .ok (.iconst 3, 1) := by decide +kernel
theorem dX7_best_73 : decode cX7_best 73 = .ok (.iload_n 2, 1) := by decide +kernel
theorem dX7_best_74 : decode cX7_best 74 = .ok (.imul, 1) := by decide +kernel
theorem dX7_best_75 : decode cX7_best 75 = .ok (.iconst 2, 1) := by decide +kernel
theorem dX7_best_76 : decode cX7_best 76 = .ok (.iadd, 1) := by decide +kernel
theorem dX7_best_77 : decode cX7_best 77 = .ok (.aload_n 0, 1) := by decide +kernel
theorem dX7_best_78 : decode cX7_best 78 = .ok (.invokevirtual 86, 3) := by decide +kernel
theorem dX7_best_81 : decode cX7_best 81 = .ok (.iastore, 1) := by decide +kernel
theorem dX7_best_82 : decode cX7_best 82 = .ok (.aload_n 0, 1) := by decide +kernel
theorem dX7_best_83 : decode cX7_best 83 = .ok (.invokevirtual 164, 3) := by decide +kernel
theorem dX7_best_86 : decode cX7_best 86 = .ok (.iinc 2 1, 3) := by decide +kernel
theorem dX7_best_89 : decode cX7_best 89 = .ok (.goto (-67), 3) := by decide +kernel
theorem dX7_best_92 : decode cX7_best 92 = .ok (.iconst 0, 1) := by decide +kernel
theorem dX7_best_93 : decode cX7_best 93 = .ok (.istore_n 2, 1) := by decide +kernel
theorem dX7_best_94 : decode cX7_best 94 = .ok (.iconst 1, 1) := by decide +kernel
theorem dX7_best_95 : decode cX7_best 95 = .ok (.istore_n 3, 1) := by decide +kernel
theorem dX7_best_96 : decode cX7_best 96 = .ok (.iload_n 3, 1) := by decide +kernel
theorem dX7_best_97 : decode cX7_best 97 = .ok (.iconst 5, 1) := by decide +kernel
theorem dX7_best_98 : decode cX7_best 98 = .ok (.if_icmp .ge 71, 3) := by decide +kernel
theorem dX7_best_101 : decode cX7_best 101 = .ok (.aload_n 0, 1) := by decide +kernel
theorem dX7_best_102 : decode cX7_best 102 = .ok (.getfield 46, 3) := by decide +kernel
theorem dX7_best_105 : decode cX7_best 105 = .ok (.iconst 3, 1) := by decide +kernel
theorem dX7_best_106 : decode cX7_best 106 = .ok (.iload_n 3, 1) := by decide +kernel
theorem dX7_best_107 : decode cX7_best 107 = .ok (.imul, 1) := by decide +kernel
theorem dX7_best_108 : decode cX7_best 108 = .ok (.iconst 1, 1) := by decide +kernel
theorem dX7_best_109 : decode cX7_best 109 = .ok (.iadd, 1) := by decide +kernel
theorem dX7_best_110 : decode cX7_best 110 = .ok (.iaload, 1) := by decide +kernel
theorem dX7_best_111 : decode cX7_best 111 = .ok (.aload_n 0, 1) := by decide +kernel
theorem dX7_best_112 : decode cX7_best 112 = .ok (.getfield 46, 3) := by decide +kernel
theorem dX7_best_115 : decode cX7_best 115 = .ok (.iconst 3, 1) := by decide +kernel
theorem dX7_best_116 : decode cX7_best 116 = .ok (.iload_n 2, 1) := by decide +kernel
theorem dX7_best_117 : decode cX7_best 117 = .ok (.imul, 1) := by decide +kernel
theorem dX7_best_118 : decode cX7_best 118 = .ok (.iconst 1, 1) := by decide +kernel
theorem dX7_best_119 : decode cX7_best 119 = .ok (.iadd, 1) := by decide +kernel
theorem dX7_best_120 : decode cX7_best 120 = .ok (.iaload, 1) := by decide +kernel
theorem dX7_best_121 : decode cX7_best 121 = .ok (.isub, 1) := by decide +kernel
theorem dX7_best_122 : decode cX7_best 122 = .ok (.istore 4, 2) := by decide +kernel
theorem dX7_best_124 : decode cX7_best 124 = .ok (.iload 4, 2) := by decide +kernel
theorem dX7_best_126 : decode cX7_best 126 = .ok (.ifCond .lt 31, 3) := by decide +kernel
theorem dX7_best_129 : decode cX7_best 129 = .ok (.iload 4, 2) := by decide +kernel
theorem dX7_best_131 : decode cX7_best 131 = .ok (.ifCond .ne 30, 3) := by decide +kernel
theorem dX7_best_134 : decode cX7_best 134 = .ok (.aload_n 0, 1) := by decide +kernel
theorem dX7_best_135 : decode cX7_best 135 = .ok (.getfield 46, 3) := by decide +kernel
theorem dX7_best_138 : decode cX7_best 138 = .ok (.iconst 3, 1) := by decide +kernel
theorem dX7_best_139 : decode cX7_best 139 = .ok (.iload_n 3, 1) := by decide +kernel
theorem dX7_best_140 : decode cX7_best 140 = .ok (.imul, 1) := by decide +kernel
theorem dX7_best_141 : decode cX7_best 141 = .ok (.iconst 2, 1) := by decide +kernel
theorem dX7_best_142 : decode cX7_best 142 = .ok (.iadd, 1) := by decide +kernel
theorem dX7_best_143 : decode cX7_best 143 = .ok (.iaload, 1) := by decide +kernel
theorem dX7_best_144 : decode cX7_best 144 = .ok (.aload_n 0, 1) := by decide +kernel
theorem dX7_best_145 : decode cX7_best 145 = .ok (.getfield 46, 3) := by decide +kernel
theorem dX7_best_148 : decode cX7_best 148 = .ok (.iconst 3, 1) := by decide +kernel
theorem dX7_best_149 : decode cX7_best 149 = .ok (.iload_n 2, 1) := by decide +kernel
theorem dX7_best_150 : decode cX7_best 150 = .ok (.imul, 1) := by decide +kernel
theorem dX7_best_151 : decode cX7_best 151 = .ok (.iconst 2, 1) := by decide +kernel
theorem dX7_best_152 : decode cX7_best 152 = .ok (.iadd, 1) := by decide +kernel
theorem dX7_best_153 : decode cX7_best 153 = .ok (.iaload, 1) := by decide +kernel
theorem dX7_best_154 : decode cX7_best 154 = .ok (.if_icmp .ge 7, 3) := by decide +kernel
theorem dX7_best_157 : decode cX7_best 157 = .ok (.iload_n 3, 1) := by decide +kernel
theorem dX7_best_158 : decode cX7_best 158 = .ok (.goto 4, 3) := by decide +kernel
theorem dX7_best_161 : decode cX7_best 161 = .ok (.iload_n 2, 1) := by decide +kernel
theorem dX7_best_162 : decode cX7_best 162 = .ok (.istore_n 2, 1) := by decide +kernel
theorem dX7_best_163 : decode cX7_best 163 = .ok (.iinc 3 1, 3) := by decide +kernel
theorem dX7_best_166 : decode cX7_best 166 = .ok (.goto (-70), 3) := by decide +kernel
theorem dX7_best_169 : decode cX7_best 169 = .ok (.aload_n 0, 1) := by decide +kernel
theorem dX7_best_170 : decode cX7_best 170 = .ok (.getfield 46, 3) := by decide +kernel
theorem dX7_best_173 : decode cX7_best 173 = .ok (.iconst 3, 1) := by decide +kernel
theorem dX7_best_174 : decode cX7_best 174 = .ok (.iload_n 2, 1) := by decide +kernel
theorem dX7_best_175 : decode cX7_best 175 = .ok (.imul, 1) := by decide +kernel
theorem dX7_best_176 : decode cX7_best 176 = .ok (.iload_n 1, 1) := by decide +kernel
theorem dX7_best_177 : decode cX7_best 177 = .ok (.iadd, 1) := by decide +kernel
theorem dX7_best_178 : decode cX7_best 178 = .ok (.iaload, 1) := by decide +kernel
theorem dX7_best_179 : decode cX7_best 179 = .ok (.ireturn, 1) := by decide +kernel
set_option maxRecDepth 20000 in
theorem ggX7_row_X7_in : GoodIn wsX7_row wsX7_in := goodIn_r _ [7] (by decide +kernel) (by decide +kernel)
set_option maxRecDepth 20000 in
theorem gX7_row_X7_in : GoodIn wsX7_row (va_wsS RX7 49 yX7_in wsX7_in) := goodIn_app (goodIn_of _ (by decide +kernel)) ggX7_row_X7_in
set_option maxRecDepth 20000 in
theorem ggX7_row_X7_refuses : GoodIn wsX7_row wsX7_refuses := goodIn_r _ [11, 12, 13, 14, 15, 16, 17, 18, 19, 20, 21, 22, 23, 24, 25, 26, 27, 28, 29] (by decide +kernel) (by decide +kernel)
set_option maxRecDepth 20000 in
theorem gX7_row_X7_refuses : GoodIn wsX7_row (wsV RX7 65 RX7 yX7_refuses wsX7_refuses) := goodIn_app (goodIn_of _ (by decide +kernel)) ggX7_row_X7_refuses
theorem dX7_row_0 : decode cX7_row 0 = .ok (.iload_n 1, 1) := by decide +kernel
theorem dX7_row_1 : decode cX7_row 1 = .ok (.iconst 0, 1) := by decide +kernel
theorem dX7_row_2 : decode cX7_row 2 = .ok (.bipush 7, 2) := by decide +kernel
theorem dX7_row_4 : decode cX7_row 4 = .ok (.invokestatic 49, 3) := by decide +kernel
theorem dX7_row_7 : decode cX7_row 7 = .ok (.ifCond .eq 13, 3) := by decide +kernel
theorem dX7_row_10 : decode cX7_row 10 = .ok (.iload_n 2, 1) := by decide +kernel
theorem dX7_row_11 : decode cX7_row 11 = .ok (.iconst 0, 1) := by decide +kernel
theorem dX7_row_12 : decode cX7_row 12 = .ok (.bipush 90, 2) := by decide +kernel
theorem dX7_row_14 : decode cX7_row 14 = .ok (.invokestatic 49, 3) := by decide +kernel
theorem dX7_row_17 : decode cX7_row 17 = .ok (.ifCond .ne 10, 3) := by decide +kernel
theorem dX7_row_20 : decode cX7_row 20 = .ok (.aload_n 0, 1) := by decide +kernel
theorem dX7_row_21 : decode cX7_row 21 = .ok (.bipush (-2), 2) := by decide +kernel
theorem dX7_row_23 : decode cX7_row 23 = .ok (.invokevirtual 65, 3) := by decide +kernel
theorem dX7_row_26 : decode cX7_row 26 = .ok (.ireturn, 1) := by decide +kernel
theorem dX7_row_27 : decode cX7_row 27 = .ok (.iconst 0, 1) := by decide +kernel
theorem dX7_row_28 : decode cX7_row 28 = .ok (.istore_n 3, 1) := by decide +kernel
theorem dX7_row_29 : decode cX7_row 29 = .ok (.iconst 0, 1) := by decide +kernel
theorem dX7_row_30 : decode cX7_row 30 = .ok (.istore 4, 2) := by decide +kernel
theorem dX7_row_32 : decode cX7_row 32 = .ok (.iload 4, 2) := by decide +kernel
theorem dX7_row_34 : decode cX7_row 34 = .ok (.bipush 10, 2) := by decide +kernel
theorem dX7_row_36 : decode cX7_row 36 = .ok (.if_icmp .ge 17, 3) := by decide +kernel
theorem dX7_row_39 : decode cX7_row 39 = .ok (.aload_n 0, 1) := by decide +kernel
theorem dX7_row_40 : decode cX7_row 40 = .ok (.getfield 46, 3) := by decide +kernel
theorem dX7_row_43 : decode cX7_row 43 = .ok (.iload 4, 2) := by decide +kernel
theorem dX7_row_45 : decode cX7_row 45 = .ok (.iconst 0, 1) := by decide +kernel
theorem dX7_row_46 : decode cX7_row 46 = .ok (.iastore, 1) := by decide +kernel
theorem dX7_row_47 : decode cX7_row 47 = .ok (.iinc 4 1, 3) := by decide +kernel
theorem dX7_row_50 : decode cX7_row 50 = .ok (.goto (-18), 3) := by decide +kernel
theorem dX7_row_53 : decode cX7_row 53 = .ok (.iconst 0, 1) := by decide +kernel
theorem dX7_row_54 : decode cX7_row 54 = .ok (.istore 4, 2) := by decide +kernel
theorem dX7_row_56 : decode cX7_row 56 = .ok (.iload 4, 2) := by decide +kernel
theorem dX7_row_58 : decode cX7_row 58 = .ok (.aload_n 0, 1) := by decide +kernel
theorem dX7_row_59 : decode cX7_row 59 = .ok (.getfield 19, 3) := by decide +kernel
theorem dX7_row_62 : decode cX7_row 62 = .ok (.iconst 1, 1) := by decide +kernel
theorem dX7_row_63 : decode cX7_row 63 = .ok (.iaload, 1) := by decide +kernel
theorem dX7_row_64 : decode cX7_row 64 = .ok (.iadd, 1) := by decide +kernel
theorem dX7_row_65 : decode cX7_row 65 = .ok (.bipush 10, 2) := by decide +kernel
theorem dX7_row_67 : decode cX7_row 67 = .ok (.if_icmp .gt 187, 3) := by decide +kernel
theorem dX7_row_70 : decode cX7_row 70 = .ok (.iload_n 2, 1) := by decide +kernel
theorem dX7_row_71 : decode cX7_row 71 = .ok (.istore 5, 2) := by decide +kernel
theorem dX7_row_73 : decode cX7_row 73 = .ok (.iload 4, 2) := by decide +kernel
theorem dX7_row_75 : decode cX7_row 75 = .ok (.istore 6, 2) := by decide +kernel
theorem dX7_row_77 : decode cX7_row 77 = .ok (.iload 6, 2) := by decide +kernel
theorem dX7_row_79 : decode cX7_row 79 = .ok (.iload 4, 2) := by decide +kernel
theorem dX7_row_81 : decode cX7_row 81 = .ok (.aload_n 0, 1) := by decide +kernel
theorem dX7_row_82 : decode cX7_row 82 = .ok (.getfield 19, 3) := by decide +kernel
theorem dX7_row_85 : decode cX7_row 85 = .ok (.iconst 1, 1) := by decide +kernel
theorem dX7_row_86 : decode cX7_row 86 = .ok (.iaload, 1) := by decide +kernel
theorem dX7_row_87 : decode cX7_row 87 = .ok (.iadd, 1) := by decide +kernel
theorem dX7_row_88 : decode cX7_row 88 = .ok (.if_icmp .ge 34, 3) := by decide +kernel
theorem dX7_row_91 : decode cX7_row 91 = .ok (.iload 5, 2) := by decide +kernel
theorem dX7_row_93 : decode cX7_row 93 = .ok (.aload_n 0, 1) := by decide +kernel
theorem dX7_row_94 : decode cX7_row 94 = .ok (.getfield 7, 3) := by decide +kernel
theorem dX7_row_97 : decode cX7_row 97 = .ok (.bipush 10, 2) := by decide +kernel
theorem dX7_row_99 : decode cX7_row 99 = .ok (.iload_n 1, 1) := by decide +kernel
theorem dX7_row_100 : decode cX7_row 100 = .ok (.imul, 1) := by decide +kernel
theorem dX7_row_101 : decode cX7_row 101 = .ok (.iload 6, 2) := by decide +kernel
theorem dX7_row_103 : decode cX7_row 103 = .ok (.iadd, 1) := by decide +kernel
theorem dX7_row_104 : decode cX7_row 104 = .ok (.iaload, 1) := by decide +kernel
theorem dX7_row_105 : decode cX7_row 105 = .ok (.aload_n 0, 1) := by decide +kernel
theorem dX7_row_106 : decode cX7_row 106 = .ok (.getfield 46, 3) := by decide +kernel
theorem dX7_row_109 : decode cX7_row 109 = .ok (.iload 6, 2) := by decide +kernel
theorem dX7_row_111 : decode cX7_row 111 = .ok (.iaload, 1) := by decide +kernel
theorem dX7_row_112 : decode cX7_row 112 = .ok (.iadd, 1) := by decide +kernel
theorem dX7_row_113 : decode cX7_row 113 = .ok (.isub, 1) := by decide +kernel
theorem dX7_row_114 : decode cX7_row 114 = .ok (.istore 5, 2) := by decide +kernel
theorem dX7_row_116 : decode cX7_row 116 = .ok (.iinc 6 1, 3) := by decide +kernel
theorem dX7_row_119 : decode cX7_row 119 = .ok (.goto (-42), 3) := by decide +kernel
theorem dX7_row_122 : decode cX7_row 122 = .ok (.iload 4, 2) := by decide +kernel
theorem dX7_row_124 : decode cX7_row 124 = .ok (.aload_n 0, 1) := by decide +kernel
theorem dX7_row_125 : decode cX7_row 125 = .ok (.getfield 19, 3) := by decide +kernel
theorem dX7_row_128 : decode cX7_row 128 = .ok (.iconst 1, 1) := by decide +kernel
theorem dX7_row_129 : decode cX7_row 129 = .ok (.iaload, 1) := by decide +kernel
theorem dX7_row_130 : decode cX7_row 130 = .ok (.iadd, 1) := by decide +kernel
theorem dX7_row_131 : decode cX7_row 131 = .ok (.iconst 1, 1) := by decide +kernel
theorem dX7_row_132 : decode cX7_row 132 = .ok (.isub, 1) := by decide +kernel
theorem dX7_row_133 : decode cX7_row 133 = .ok (.istore 6, 2) := by decide +kernel
theorem dX7_row_135 : decode cX7_row 135 = .ok (.iload 6, 2) := by decide +kernel
theorem dX7_row_137 : decode cX7_row 137 = .ok (.iload 4, 2) := by decide +kernel
theorem dX7_row_139 : decode cX7_row 139 = .ok (.if_icmp .lt 102, 3) := by decide +kernel
theorem dX7_row_142 : decode cX7_row 142 = .ok (.iload 5, 2) := by decide +kernel
theorem dX7_row_144 : decode cX7_row 144 = .ok (.ifCond .le 97, 3) := by decide +kernel
theorem dX7_row_147 : decode cX7_row 147 = .ok (.aload_n 0, 1) := by decide +kernel
theorem dX7_row_148 : decode cX7_row 148 = .ok (.getfield 7, 3) := by decide +kernel
theorem dX7_row_151 : decode cX7_row 151 = .ok (.bipush 80, 2) := by decide +kernel
theorem dX7_row_153 : decode cX7_row 153 = .ok (.bipush 10, 2) := by decide +kernel
theorem dX7_row_155 : decode cX7_row 155 = .ok (.iload_n 1, 1) := by decide +kernel
theorem dX7_row_156 : decode cX7_row 156 = .ok (.imul, 1) := by decide +kernel
theorem dX7_row_157 : decode cX7_row 157 = .ok (.iadd, 1) := by decide +kernel
theorem dX7_row_158 : decode cX7_row 158 = .ok (.iload 6, 2) := by decide +kernel
theorem dX7_row_160 : decode cX7_row 160 = .ok (.iadd, 1) := by decide +kernel
theorem dX7_row_161 : decode cX7_row 161 = .ok (.iaload, 1) := by decide +kernel
theorem dX7_row_162 : decode cX7_row 162 = .ok (.iconst 1, 1) := by decide +kernel
theorem dX7_row_163 : decode cX7_row 163 = .ok (.if_icmp .ne 7, 3) := by decide +kernel
theorem dX7_row_166 : decode cX7_row 166 = .ok (.iconst 0, 1) := by decide +kernel
theorem dX7_row_167 : decode cX7_row 167 = .ok (.goto 26, 3) := by decide +kernel
theorem dX7_row_170 : decode cX7_row 170 = .ok (.bipush 9, 2) := by decide +kernel
theorem dX7_row_172 : decode cX7_row 172 = .ok (.aload_n 0, 1) := by decide +kernel
theorem dX7_row_173 : decode cX7_row 173 = .ok (.getfield 7, 3) := by decide +kernel
theorem dX7_row_176 : decode cX7_row 176 = .ok (.bipush 10, 2) := by decide +kernel
theorem dX7_row_178 : decode cX7_row 178 = .ok (.iload_n 1, 1) := by decide +kernel
theorem dX7_row_179 : decode cX7_row 179 = .ok (.imul, 1) := by decide +kernel
theorem dX7_row_180 : decode cX7_row 180 = .ok (.iload 6, 2) := by decide +kernel
theorem dX7_row_182 : decode cX7_row 182 = .ok (.iadd, 1) := by decide +kernel
theorem dX7_row_183 : decode cX7_row 183 = .ok (.iaload, 1) := by decide +kernel
theorem dX7_row_184 : decode cX7_row 184 = .ok (.isub, 1) := by decide +kernel
theorem dX7_row_185 : decode cX7_row 185 = .ok (.aload_n 0, 1) := by decide +kernel
theorem dX7_row_186 : decode cX7_row 186 = .ok (.getfield 46, 3) := by decide +kernel
theorem dX7_row_189 : decode cX7_row 189 = .ok (.iload 6, 2) := by decide +kernel
theorem dX7_row_191 : decode cX7_row 191 = .ok (.iaload, 1) := by decide +kernel
theorem dX7_row_192 : decode cX7_row 192 = .ok (.isub, 1) := by decide +kernel
theorem dX7_row_193 : decode cX7_row 193 = .ok (.istore 7, 2) := by decide +kernel
theorem dX7_row_195 : decode cX7_row 195 = .ok (.iload 7, 2) := by decide +kernel
theorem dX7_row_197 : decode cX7_row 197 = .ok (.iload 5, 2) := by decide +kernel
theorem dX7_row_199 : decode cX7_row 199 = .ok (.if_icmp .ge 8, 3) := by decide +kernel
theorem dX7_row_202 : decode cX7_row 202 = .ok (.iload 7, 2) := by decide +kernel
theorem dX7_row_204 : decode cX7_row 204 = .ok (.goto 5, 3) := by decide +kernel
theorem dX7_row_207 : decode cX7_row 207 = .ok (.iload 5, 2) := by decide +kernel
theorem dX7_row_209 : decode cX7_row 209 = .ok (.istore 8, 2) := by decide +kernel
theorem dX7_row_211 : decode cX7_row 211 = .ok (.aload_n 0, 1) := by decide +kernel
theorem dX7_row_212 : decode cX7_row 212 = .ok (.getfield 46, 3) := by decide +kernel
theorem dX7_row_215 : decode cX7_row 215 = .ok (.iload 6, 2) := by decide +kernel
theorem dX7_row_217 : decode cX7_row 217 = .ok (.dup2, 1) := by decide +kernel
theorem dX7_row_218 : decode cX7_row 218 = .ok (.iaload, 1) := by decide +kernel
theorem dX7_row_219 : decode cX7_row 219 = .ok (.iload 8, 2) := by decide +kernel
theorem dX7_row_221 : decode cX7_row 221 = .ok (.iadd, 1) := by decide +kernel
theorem dX7_row_222 : decode cX7_row 222 = .ok (.iastore, 1) := by decide +kernel
theorem dX7_row_223 : decode cX7_row 223 = .ok (.iload 5, 2) := by decide +kernel
theorem dX7_row_225 : decode cX7_row 225 = .ok (.iload 8, 2) := by decide +kernel
theorem dX7_row_227 : decode cX7_row 227 = .ok (.isub, 1) := by decide +kernel
theorem dX7_row_228 : decode cX7_row 228 = .ok (.istore 5, 2) := by decide +kernel
theorem dX7_row_230 : decode cX7_row 230 = .ok (.iload_n 3, 1) := by decide +kernel
theorem dX7_row_231 : decode cX7_row 231 = .ok (.iload 8, 2) := by decide +kernel
theorem dX7_row_233 : decode cX7_row 233 = .ok (.iadd, 1) := by decide +kernel
theorem dX7_row_234 : decode cX7_row 234 = .ok (.istore_n 3, 1) := by decide +kernel
theorem dX7_row_235 : decode cX7_row 235 = .ok (.iinc 6 (-1), 3) := by decide +kernel
theorem dX7_row_238 : decode cX7_row 238 = .ok (.goto (-103), 3) := by decide +kernel
theorem dX7_row_241 : decode cX7_row 241 = .ok (.iload 5, 2) := by decide +kernel
theorem dX7_row_243 : decode cX7_row 243 = .ok (.ifCond .le 5, 3) := by decide +kernel
theorem dX7_row_246 : decode cX7_row 246 = .ok (.iconst (-1), 1) := by decide +kernel
theorem dX7_row_247 : decode cX7_row 247 = .ok (.ireturn, 1) := by decide +kernel
theorem dX7_row_248 : decode cX7_row 248 = .ok (.iinc 4 1, 3) := by decide +kernel
theorem dX7_row_251 : decode cX7_row 251 = .ok (.goto (-195), 3) := by decide +kernel
theorem dX7_row_254 : decode cX7_row 254 = .ok (.iload_n 3, 1) := by decide +kernel
theorem dX7_row_255 : decode cX7_row 255 = .ok (.ireturn, 1) := by decide +kernel
set_option maxRecDepth 20000 in
theorem ggX7_undo_X7_refuses : GoodIn wsX7_undo wsX7_refuses := goodIn_r _ [8, 9, 10, 11, 12, 13, 14, 15, 16, 17, 18, 19, 20, 21, 22, 23, 24, 25, 26] (by decide +kernel) (by decide +kernel)
set_option maxRecDepth 20000 in
theorem gX7_undo_X7_refuses : GoodIn wsX7_undo (wsV RX7 65 RX7 yX7_refuses wsX7_refuses) := goodIn_app (goodIn_of _ (by decide +kernel)) ggX7_undo_X7_refuses
theorem dX7_undo_0 : decode cX7_undo 0 = .ok (.aload_n 0, 1) := by decide +kernel
theorem dX7_undo_1 : decode cX7_undo 1 = .ok (.getfield 53, 3) := by decide +kernel
theorem dX7_undo_4 : decode cX7_undo 4 = .ok (.ifCond .ne 10, 3) := by decide +kernel
theorem dX7_undo_7 : decode cX7_undo 7 = .ok (.aload_n 0, 1) := by decide +kernel
theorem dX7_undo_8 : decode cX7_undo 8 = .ok (.bipush (-3), 2) := by decide +kernel
theorem dX7_undo_10 : decode cX7_undo 10 = .ok (.invokevirtual 65, 3) := by decide +kernel
theorem dX7_undo_13 : decode cX7_undo 13 = .ok (.ireturn, 1) := by decide +kernel
theorem dX7_undo_14 : decode cX7_undo 14 = .ok (.aload_n 0, 1) := by decide +kernel
theorem dX7_undo_15 : decode cX7_undo 15 = .ok (.dup, 1) := by decide +kernel
theorem dX7_undo_16 : decode cX7_undo 16 = .ok (.getfield 53, 3) := by decide +kernel
theorem dX7_undo_19 : decode cX7_undo 19 = .ok (.iconst 1, 1) := by decide +kernel
theorem dX7_undo_20 : decode cX7_undo 20 = .ok (.isub, 1) := by decide +kernel
theorem dX7_undo_21 : decode cX7_undo 21 = .ok (.putfield 53, 3) := by decide +kernel
theorem dX7_undo_24 : decode cX7_undo 24 = .ok (.iconst 0, 1) := by decide +kernel
theorem dX7_undo_25 : decode cX7_undo 25 = .ok (.istore_n 1, 1) := by decide +kernel
theorem dX7_undo_26 : decode cX7_undo 26 = .ok (.iload_n 1, 1) := by decide +kernel
theorem dX7_undo_27 : decode cX7_undo 27 = .ok (.sipush 400, 3) := by decide +kernel
theorem dX7_undo_30 : decode cX7_undo 30 = .ok (.if_icmp .ge 30, 3) := by decide +kernel
theorem dX7_undo_33 : decode cX7_undo 33 = .ok (.aload_n 0, 1) := by decide +kernel
theorem dX7_undo_34 : decode cX7_undo 34 = .ok (.getfield 7, 3) := by decide +kernel
theorem dX7_undo_37 : decode cX7_undo 37 = .ok (.iload_n 1, 1) := by decide +kernel
theorem dX7_undo_38 : decode cX7_undo 38 = .ok (.aload_n 0, 1) := by decide +kernel
theorem dX7_undo_39 : decode cX7_undo 39 = .ok (.getfield 13, 3) := by decide +kernel
theorem dX7_undo_42 : decode cX7_undo 42 = .ok (.sipush 400, 3) := by decide +kernel
theorem dX7_undo_45 : decode cX7_undo 45 = .ok (.aload_n 0, 1) := by decide +kernel
theorem dX7_undo_46 : decode cX7_undo 46 = .ok (.getfield 53, 3) := by decide +kernel
theorem dX7_undo_49 : decode cX7_undo 49 = .ok (.imul, 1) := by decide +kernel
theorem dX7_undo_50 : decode cX7_undo 50 = .ok (.iload_n 1, 1) := by decide +kernel
theorem dX7_undo_51 : decode cX7_undo 51 = .ok (.iadd, 1) := by decide +kernel
theorem dX7_undo_52 : decode cX7_undo 52 = .ok (.iaload, 1) := by decide +kernel
theorem dX7_undo_53 : decode cX7_undo 53 = .ok (.iastore, 1) := by decide +kernel
theorem dX7_undo_54 : decode cX7_undo 54 = .ok (.iinc 1 1, 3) := by decide +kernel
theorem dX7_undo_57 : decode cX7_undo 57 = .ok (.goto (-31), 3) := by decide +kernel
theorem dX7_undo_60 : decode cX7_undo 60 = .ok (.aload_n 0, 1) := by decide +kernel
theorem dX7_undo_61 : decode cX7_undo 61 = .ok (.getfield 53, 3) := by decide +kernel
theorem dX7_undo_64 : decode cX7_undo 64 = .ok (.ireturn, 1) := by decide +kernel
set_option maxRecDepth 20000 in
theorem ggX7_type_X7_in : GoodIn wsX7_type wsX7_in := goodIn_r _ [6] (by decide +kernel) (by decide +kernel)
set_option maxRecDepth 20000 in
theorem gX7_type_X7_in : GoodIn wsX7_type (va_wsS RX7 49 yX7_in wsX7_in) := goodIn_app (goodIn_of _ (by decide +kernel)) ggX7_type_X7_in
set_option maxRecDepth 20000 in
theorem ggX7_type_X7_refuses : GoodIn wsX7_type wsX7_refuses := goodIn_r _ [10, 11, 12, 13, 14, 15, 16, 17, 18, 19, 20, 21, 22, 23, 24, 25, 26, 27, 28] (by decide +kernel) (by decide +kernel)
set_option maxRecDepth 20000 in
theorem gX7_type_X7_refuses : GoodIn wsX7_type (wsV RX7 65 RX7 yX7_refuses wsX7_refuses) := goodIn_app (goodIn_of _ (by decide +kernel)) ggX7_type_X7_refuses
theorem dX7_type_0 : decode cX7_type 0 = .ok (.iload_n 1, 1) := by decide +kernel
theorem dX7_type_1 : decode cX7_type 1 = .ok (.iconst 0, 1) := by decide +kernel
theorem dX7_type_2 : decode cX7_type 2 = .ok (.bipush 127, 2) := by decide +kernel
theorem dX7_type_4 : decode cX7_type 4 = .ok (.invokestatic 49, 3) := by decide +kernel
theorem dX7_type_7 : decode cX7_type 7 = .ok (.ifCond .ne 10, 3) := by decide +kernel
theorem dX7_type_10 : decode cX7_type 10 = .ok (.aload_n 0, 1) := by decide +kernel
theorem dX7_type_11 : decode cX7_type 11 = .ok (.bipush (-2), 2) := by decide +kernel
theorem dX7_type_13 : decode cX7_type 13 = .ok (.invokevirtual 65, 3) := by decide +kernel
theorem dX7_type_16 : decode cX7_type 16 = .ok (.ireturn, 1) := by decide +kernel
theorem dX7_type_17 : decode cX7_type 17 = .ok (.aload_n 0, 1) := by decide +kernel
theorem dX7_type_18 : decode cX7_type 18 = .ok (.getfield 167, 3) := by decide +kernel
theorem dX7_type_21 : decode cX7_type 21 = .ok (.bipush 120, 2) := by decide +kernel
theorem dX7_type_23 : decode cX7_type 23 = .ok (.if_icmp .ne 10, 3) := by decide +kernel
theorem dX7_type_26 : decode cX7_type 26 = .ok (.aload_n 0, 1) := by decide +kernel
theorem dX7_type_27 : decode cX7_type 27 = .ok (.bipush (-4), 2) := by decide +kernel
theorem dX7_type_29 : decode cX7_type 29 = .ok (.invokevirtual 65, 3) := by decide +kernel
theorem dX7_type_32 : decode cX7_type 32 = .ok (.ireturn, 1) := by decide +kernel
theorem dX7_type_33 : decode cX7_type 33 = .ok (.aload_n 0, 1) := by decide +kernel
theorem dX7_type_34 : decode cX7_type 34 = .ok (.getfield 25, 3) := by decide +kernel
theorem dX7_type_37 : decode cX7_type 37 = .ok (.aload_n 0, 1) := by decide +kernel
theorem dX7_type_38 : decode cX7_type 38 = .ok (.getfield 167, 3) := by decide +kernel
theorem dX7_type_41 : decode cX7_type 41 = .ok (.iload_n 1, 1) := by decide +kernel
theorem dX7_type_42 : decode cX7_type 42 = .ok (.iastore, 1) := by decide +kernel
theorem dX7_type_43 : decode cX7_type 43 = .ok (.aload_n 0, 1) := by decide +kernel
theorem dX7_type_44 : decode cX7_type 44 = .ok (.dup, 1) := by decide +kernel
theorem dX7_type_45 : decode cX7_type 45 = .ok (.getfield 167, 3) := by decide +kernel
theorem dX7_type_48 : decode cX7_type 48 = .ok (.iconst 1, 1) := by decide +kernel
theorem dX7_type_49 : decode cX7_type 49 = .ok (.iadd, 1) := by decide +kernel
theorem dX7_type_50 : decode cX7_type 50 = .ok (.putfield 167, 3) := by decide +kernel
theorem dX7_type_53 : decode cX7_type 53 = .ok (.aload_n 0, 1) := by decide +kernel
theorem dX7_type_54 : decode cX7_type 54 = .ok (.getfield 167, 3) := by decide +kernel
theorem dX7_type_57 : decode cX7_type 57 = .ok (.ireturn, 1) := by decide +kernel
theorem dX7_clear_0 : decode cX7_clear 0 = .ok (.aload_n 0, 1) := by decide +kernel
theorem dX7_clear_1 : decode cX7_clear 1 = .ok (.getfield 167, 3) := by decide +kernel
theorem dX7_clear_4 : decode cX7_clear 4 = .ok (.istore_n 1, 1) := by decide +kernel
theorem dX7_clear_5 : decode cX7_clear 5 = .ok (.aload_n 0, 1) := by decide +kernel
theorem dX7_clear_6 : decode cX7_clear 6 = .ok (.iconst 0, 1) := by decide +kernel
theorem dX7_clear_7 : decode cX7_clear 7 = .ok (.putfield 167, 3) := by decide +kernel
theorem dX7_clear_10 : decode cX7_clear 10 = .ok (.iload_n 1, 1) := by decide +kernel
theorem dX7_clear_11 : decode cX7_clear 11 = .ok (.ireturn, 1) := by decide +kernel
theorem dX7_byteAt_0 : decode cX7_byteAt 0 = .ok (.iload_n 1, 1) := by decide +kernel
theorem dX7_byteAt_1 : decode cX7_byteAt 1 = .ok (.aload_n 0, 1) := by decide +kernel
theorem dX7_byteAt_2 : decode cX7_byteAt 2 = .ok (.getfield 167, 3) := by decide +kernel
theorem dX7_byteAt_5 : decode cX7_byteAt 5 = .ok (.if_icmp .ge 12, 3) := by decide +kernel
theorem dX7_byteAt_8 : decode cX7_byteAt 8 = .ok (.aload_n 0, 1) := by decide +kernel
theorem dX7_byteAt_9 : decode cX7_byteAt 9 = .ok (.getfield 25, 3) := by decide +kernel
theorem dX7_byteAt_12 : decode cX7_byteAt 12 = .ok (.iload_n 1, 1) := by decide +kernel
theorem dX7_byteAt_13 : decode cX7_byteAt 13 = .ok (.iaload, 1) := by decide +kernel
theorem dX7_byteAt_14 : decode cX7_byteAt 14 = .ok (.goto 4, 3) := by decide +kernel
theorem dX7_byteAt_17 : decode cX7_byteAt 17 = .ok (.iconst (-1), 1) := by decide +kernel
theorem dX7_byteAt_18 : decode cX7_byteAt 18 = .ok (.ireturn, 1) := by decide +kernel
set_option maxRecDepth 20000 in
theorem ggX7_skips_X7_byteAt : GoodIn wsX7_skips wsX7_byteAt := goodIn_r _ [6, 7, 8, 9, 10, 11, 12, 13, 14, 15, 16, 17, 18, 19, 20, 21, 22, 23, 24, 25] (by decide +kernel) (by decide +kernel)
set_option maxRecDepth 20000 in
theorem gX7_skips_X7_byteAt : GoodIn wsX7_skips (wsV RX7 173 RX7 yX7_byteAt wsX7_byteAt) := goodIn_app (goodIn_of _ (by decide +kernel)) ggX7_skips_X7_byteAt
theorem dX7_skips_0 : decode cX7_skips 0 = .ok (.aload_n 0, 1) := by decide +kernel
theorem dX7_skips_1 : decode cX7_skips 1 = .ok (.aload_n 0, 1) := by decide +kernel
theorem dX7_skips_2 : decode cX7_skips 2 = .ok (.getfield 170, 3) := by decide +kernel
theorem dX7_skips_5 : decode cX7_skips 5 = .ok (.invokevirtual 173, 3) := by decide +kernel
theorem dX7_skips_8 : decode cX7_skips 8 = .ok (.bipush 32, 2) := by decide +kernel
theorem dX7_skips_10 : decode cX7_skips 10 = .ok (.if_icmp .ne 16, 3) := by decide +kernel
theorem dX7_skips_13 : decode cX7_skips 13 = .ok (.aload_n 0, 1) := by decide +kernel
theorem dX7_skips_14 : decode cX7_skips 14 = .ok (.dup, 1) := by decide +kernel
theorem dX7_skips_15 : decode cX7_skips 15 = .ok (.getfield 170, 3) := by decide +kernel
theorem dX7_skips_18 : decode cX7_skips 18 = .ok (.iconst 1, 1) := by decide +kernel
theorem dX7_skips_19 : decode cX7_skips 19 = .ok (.iadd, 1) := by decide +kernel
theorem dX7_skips_20 : decode cX7_skips 20 = .ok (.putfield 170, 3) := by decide +kernel
theorem dX7_skips_23 : decode cX7_skips 23 = .ok (.goto (-23), 3) := by decide +kernel
theorem dX7_skips_26 : decode cX7_skips 26 = .ok (.return_, 1) := by decide +kernel
theorem dX7_becomes_0 : decode cX7_becomes 0 = .ok (.iload_n 2, 1) := by decide +kernel
theorem dX7_becomes_1 : decode cX7_becomes 1 = .ok (.bipush 35, 2) := by decide +kernel
theorem dX7_becomes_3 : decode cX7_becomes 3 = .ok (.if_icmp .ne 16, 3) := by decide +kernel
theorem dX7_becomes_6 : decode cX7_becomes 6 = .ok (.aload_n 0, 1) := by decide +kernel
theorem dX7_becomes_7 : decode cX7_becomes 7 = .ok (.getfield 7, 3) := by decide +kernel
theorem dX7_becomes_10 : decode cX7_becomes 10 = .ok (.bipush 80, 2) := by decide +kernel
theorem dX7_becomes_12 : decode cX7_becomes 12 = .ok (.iload_n 1, 1) := by decide +kernel
theorem dX7_becomes_13 : decode cX7_becomes 13 = .ok (.iadd, 1) := by decide +kernel
theorem dX7_becomes_14 : decode cX7_becomes 14 = .ok (.iconst 1, 1) := by decide +kernel
theorem dX7_becomes_15 : decode cX7_becomes 15 = .ok (.iastore, 1) := by decide +kernel
theorem dX7_becomes_16 : decode cX7_becomes 16 = .ok (.goto 29, 3) := by decide +kernel
theorem dX7_becomes_19 : decode cX7_becomes 19 = .ok (.iload_n 2, 1) := by decide +kernel
theorem dX7_becomes_20 : decode cX7_becomes 20 = .ok (.bipush 46, 2) := by decide +kernel
theorem dX7_becomes_22 : decode cX7_becomes 22 = .ok (.if_icmp .eq 23, 3) := by decide +kernel
theorem dX7_becomes_25 : decode cX7_becomes 25 = .ok (.aload_n 0, 1) := by decide +kernel
theorem dX7_becomes_26 : decode cX7_becomes 26 = .ok (.getfield 7, 3) := by decide +kernel
theorem dX7_becomes_29 : decode cX7_becomes 29 = .ok (.iload_n 1, 1) := by decide +kernel
theorem dX7_becomes_30 : decode cX7_becomes 30 = .ok (.iload_n 2, 1) := by decide +kernel
theorem dX7_becomes_31 : decode cX7_becomes 31 = .ok (.bipush 48, 2) := by decide +kernel
theorem dX7_becomes_33 : decode cX7_becomes 33 = .ok (.isub, 1) := by decide +kernel
theorem dX7_becomes_34 : decode cX7_becomes 34 = .ok (.iastore, 1) := by decide +kernel
theorem dX7_becomes_35 : decode cX7_becomes 35 = .ok (.aload_n 0, 1) := by decide +kernel
theorem dX7_becomes_36 : decode cX7_becomes 36 = .ok (.getfield 7, 3) := by decide +kernel
theorem dX7_becomes_39 : decode cX7_becomes 39 = .ok (.bipush 80, 2) := by decide +kernel
theorem dX7_becomes_41 : decode cX7_becomes 41 = .ok (.iload_n 1, 1) := by decide +kernel
theorem dX7_becomes_42 : decode cX7_becomes 42 = .ok (.iadd, 1) := by decide +kernel
theorem dX7_becomes_43 : decode cX7_becomes 43 = .ok (.iconst 0, 1) := by decide +kernel
theorem dX7_becomes_44 : decode cX7_becomes 44 = .ok (.iastore, 1) := by decide +kernel
theorem dX7_becomes_45 : decode cX7_becomes 45 = .ok (.return_, 1) := by decide +kernel
set_option maxRecDepth 20000 in
theorem ggX7_isRow_X7_byteAt : GoodIn wsX7_isRow wsX7_byteAt := goodIn_r _ [6, 7, 8, 21, 22, 23, 24, 25, 26, 27, 28, 29, 30, 31, 32, 33, 34, 35, 36, 37] (by decide +kernel) (by decide +kernel)
set_option maxRecDepth 20000 in
theorem gX7_isRow_X7_byteAt : GoodIn wsX7_isRow (wsV RX7 173 RX7 yX7_byteAt wsX7_byteAt) := goodIn_app (goodIn_of _ (by decide +kernel)) ggX7_isRow_X7_byteAt
set_option maxRecDepth 20000 in
theorem ggX7_isRow_X7_in : GoodIn wsX7_isRow wsX7_in := goodIn_r _ [11] (by decide +kernel) (by decide +kernel)
set_option maxRecDepth 20000 in
theorem gX7_isRow_X7_in : GoodIn wsX7_isRow (va_wsS RX7 49 yX7_in wsX7_in) := goodIn_app (goodIn_of _ (by decide +kernel)) ggX7_isRow_X7_in
set_option maxRecDepth 20000 in
theorem ggX7_isRow_X7_skips : GoodIn wsX7_isRow wsX7_skips := goodIn_r _ [15, 1, 2, 3, 4, 5, 6, 7, 8, 21, 22, 23, 24, 25, 26, 27, 28, 29, 30, 31, 32, 33, 34, 35, 36, 37] (by decide +kernel) (by decide +kernel)
set_option maxRecDepth 20000 in
theorem gX7_isRow_X7_skips : GoodIn wsX7_isRow (wsV RX7 176 RX7 yX7_skips wsX7_skips) := goodIn_app (goodIn_of _ (by decide +kernel)) ggX7_isRow_X7_skips
set_option maxRecDepth 20000 in
theorem ggX7_isRow_X7_becomes : GoodIn wsX7_isRow wsX7_becomes := goodIn_r _ [19, 20, 21, 22, 23, 24, 25, 26, 27, 28, 29, 30, 31, 32, 33, 34, 35, 36, 37] (by decide +kernel) (by decide +kernel)
set_option maxRecDepth 20000 in
theorem gX7_isRow_X7_becomes : GoodIn wsX7_isRow (wsV RX7 179 RX7 yX7_becomes wsX7_becomes) := goodIn_app (goodIn_of _ (by decide +kernel)) ggX7_isRow_X7_becomes
theorem dX7_isRow_0 : decode cX7_isRow 0 = .ok (.aload_n 0, 1) := by decide +kernel
theorem dX7_isRow_1 : decode cX7_isRow 1 = .ok (.aload_n 0, 1) := by decide +kernel
theorem dX7_isRow_2 : decode cX7_isRow 2 = .ok (.getfield 170, 3) := by decide +kernel
theorem dX7_isRow_5 : decode cX7_isRow 5 = .ok (.invokevirtual 173, 3) := by decide +kernel
theorem dX7_isRow_8 : decode cX7_isRow 8 = .ok (.bipush 48, 2) := by decide +kernel
theorem dX7_isRow_10 : decode cX7_isRow 10 = .ok (.isub, 1) := by decide +kernel
theorem dX7_isRow_11 : decode cX7_isRow 11 = .ok (.istore_n 1, 1) := by decide +kernel
theorem dX7_isRow_12 : decode cX7_isRow 12 = .ok (.iload_n 1, 1) := by decide +kernel
theorem dX7_isRow_13 : decode cX7_isRow 13 = .ok (.iconst 0, 1) := by decide +kernel
theorem dX7_isRow_14 : decode cX7_isRow 14 = .ok (.bipush 7, 2) := by decide +kernel
theorem dX7_isRow_16 : decode cX7_isRow 16 = .ok (.invokestatic 49, 3) := by decide +kernel
theorem dX7_isRow_19 : decode cX7_isRow 19 = .ok (.ifCond .ne 5, 3) := by decide +kernel
theorem dX7_isRow_22 : decode cX7_isRow 22 = .ok (.iconst 0, 1) := by decide +kernel
theorem dX7_isRow_23 : decode cX7_isRow 23 = .ok (.ireturn, 1) := by decide +kernel
theorem dX7_isRow_24 : decode cX7_isRow 24 = .ok (.aload_n 0, 1) := by decide +kernel
theorem dX7_isRow_25 : decode cX7_isRow 25 = .ok (.dup, 1) := by decide +kernel
theorem dX7_isRow_26 : decode cX7_isRow 26 = .ok (.getfield 170, 3) := by decide +kernel
theorem dX7_isRow_29 : decode cX7_isRow 29 = .ok (.iconst 1, 1) := by decide +kernel
theorem dX7_isRow_30 : decode cX7_isRow 30 = .ok (.iadd, 1) := by decide +kernel
theorem dX7_isRow_31 : decode cX7_isRow 31 = .ok (.putfield 170, 3) := by decide +kernel
theorem dX7_isRow_34 : decode cX7_isRow 34 = .ok (.iconst 0, 1) := by decide +kernel
theorem dX7_isRow_35 : decode cX7_isRow 35 = .ok (.istore_n 2, 1) := by decide +kernel
theorem dX7_isRow_36 : decode cX7_isRow 36 = .ok (.aload_n 0, 1) := by decide +kernel
theorem dX7_isRow_37 : decode cX7_isRow 37 = .ok (.invokevirtual 176, 3) := by decide +kernel
theorem dX7_isRow_40 : decode cX7_isRow 40 = .ok (.aload_n 0, 1) := by decide +kernel
theorem dX7_isRow_41 : decode cX7_isRow 41 = .ok (.aload_n 0, 1) := by decide +kernel
theorem dX7_isRow_42 : decode cX7_isRow 42 = .ok (.getfield 170, 3) := by decide +kernel
theorem dX7_isRow_45 : decode cX7_isRow 45 = .ok (.invokevirtual 173, 3) := by decide +kernel
theorem dX7_isRow_48 : decode cX7_isRow 48 = .ok (.istore_n 3, 1) := by decide +kernel
theorem dX7_isRow_49 : decode cX7_isRow 49 = .ok (.iload_n 3, 1) := by decide +kernel
theorem dX7_isRow_50 : decode cX7_isRow 50 = .ok (.bipush 59, 2) := by decide +kernel
theorem dX7_isRow_52 : decode cX7_isRow 52 = .ok (.if_icmp .ne 19, 3) := by decide +kernel
theorem dX7_isRow_55 : decode cX7_isRow 55 = .ok (.iload_n 2, 1) := by decide +kernel
theorem dX7_isRow_56 : decode cX7_isRow 56 = .ok (.ifCond .le 15, 3) := by decide +kernel
theorem dX7_isRow_59 : decode cX7_isRow 59 = .ok (.aload_n 0, 1) := by decide +kernel
theorem dX7_isRow_60 : decode cX7_isRow 60 = .ok (.dup, 1) := by decide +kernel
theorem dX7_isRow_61 : decode cX7_isRow 61 = .ok (.getfield 170, 3) := by decide +kernel
theorem dX7_isRow_64 : decode cX7_isRow 64 = .ok (.iconst 1, 1) := by decide +kernel
theorem dX7_isRow_65 : decode cX7_isRow 65 = .ok (.iadd, 1) := by decide +kernel
theorem dX7_isRow_66 : decode cX7_isRow 66 = .ok (.putfield 170, 3) := by decide +kernel
theorem dX7_isRow_69 : decode cX7_isRow 69 = .ok (.iconst 1, 1) := by decide +kernel
theorem dX7_isRow_70 : decode cX7_isRow 70 = .ok (.ireturn, 1) := by decide +kernel
theorem dX7_isRow_71 : decode cX7_isRow 71 = .ok (.iload_n 2, 1) := by decide +kernel
theorem dX7_isRow_72 : decode cX7_isRow 72 = .ok (.bipush 10, 2) := by decide +kernel
theorem dX7_isRow_74 : decode cX7_isRow 74 = .ok (.if_icmp .eq 26, 3) := by decide +kernel
theorem dX7_isRow_77 : decode cX7_isRow 77 = .ok (.iload_n 3, 1) := by decide +kernel
theorem dX7_isRow_78 : decode cX7_isRow 78 = .ok (.bipush 48, 2) := by decide +kernel
theorem dX7_isRow_80 : decode cX7_isRow 80 = .ok (.bipush 57, 2) := by decide +kernel
theorem dX7_isRow_82 : decode cX7_isRow 82 = .ok (.invokestatic 49, 3) := by decide +kernel
theorem dX7_isRow_85 : decode cX7_isRow 85 = .ok (.ifCond .ne 17, 3) := by decide +kernel
theorem dX7_isRow_88 : decode cX7_isRow 88 = .ok (.iload_n 3, 1) := by decide +kernel
theorem dX7_isRow_89 : decode cX7_isRow 89 = .ok (.bipush 35, 2) := by decide +kernel
theorem dX7_isRow_91 : decode cX7_isRow 91 = .ok (.if_icmp .eq 11, 3) := by decide +kernel
theorem dX7_isRow_94 : decode cX7_isRow 94 = .ok (.iload_n 3, 1) := by decide +kernel
theorem dX7_isRow_95 : decode cX7_isRow 95 = .ok (.bipush 46, 2) := by decide +kernel
theorem dX7_isRow_97 : decode cX7_isRow 97 = .ok (.if_icmp .eq 5, 3) := by decide +kernel
theorem dX7_isRow_100 : decode cX7_isRow 100 = .ok (.iconst 0, 1) := by decide +kernel
theorem dX7_isRow_101 : decode cX7_isRow 101 = .ok (.ireturn, 1) := by decide +kernel
theorem dX7_isRow_102 : decode cX7_isRow 102 = .ok (.aload_n 0, 1) := by decide +kernel
theorem dX7_isRow_103 : decode cX7_isRow 103 = .ok (.bipush 10, 2) := by decide +kernel
theorem dX7_isRow_105 : decode cX7_isRow 105 = .ok (.iload_n 1, 1) := by decide +kernel
theorem dX7_isRow_106 : decode cX7_isRow 106 = .ok (.imul, 1) := by decide +kernel
theorem dX7_isRow_107 : decode cX7_isRow 107 = .ok (.iload_n 2, 1) := by decide +kernel
theorem dX7_isRow_108 : decode cX7_isRow 108 = .ok (.iadd, 1) := by decide +kernel
theorem dX7_isRow_109 : decode cX7_isRow 109 = .ok (.iload_n 3, 1) := by decide +kernel
theorem dX7_isRow_110 : decode cX7_isRow 110 = .ok (.invokevirtual 179, 3) := by decide +kernel
theorem dX7_isRow_113 : decode cX7_isRow 113 = .ok (.aload_n 0, 1) := by decide +kernel
theorem dX7_isRow_114 : decode cX7_isRow 114 = .ok (.dup, 1) := by decide +kernel
theorem dX7_isRow_115 : decode cX7_isRow 115 = .ok (.getfield 170, 3) := by decide +kernel
theorem dX7_isRow_118 : decode cX7_isRow 118 = .ok (.iconst 1, 1) := by decide +kernel
theorem dX7_isRow_119 : decode cX7_isRow 119 = .ok (.iadd, 1) := by decide +kernel
theorem dX7_isRow_120 : decode cX7_isRow 120 = .ok (.putfield 170, 3) := by decide +kernel
theorem dX7_isRow_123 : decode cX7_isRow 123 = .ok (.iinc 2 1, 3) := by decide +kernel
theorem dX7_isRow_126 : decode cX7_isRow 126 = .ok (.goto (-90), 3) := by decide +kernel
set_option maxRecDepth 20000 in
theorem ggX7_reads_X7_aside : GoodIn wsX7_reads wsX7_aside := goodIn_r _ [7, 8, 9, 48, 49, 50, 51, 52, 53, 54, 55, 56, 57, 58, 59, 60, 61, 62, 63, 64] (by decide +kernel) (by decide +kernel)
set_option maxRecDepth 20000 in
theorem gX7_reads_X7_aside : GoodIn wsX7_reads (wsV RX7 68 RX7 yX7_aside wsX7_aside) := goodIn_app (goodIn_of _ (by decide +kernel)) ggX7_reads_X7_aside
set_option maxRecDepth 20000 in
theorem ggX7_reads_X7_skips : GoodIn wsX7_reads wsX7_skips := goodIn_r _ [13, 1, 14, 15, 16, 6, 17, 2, 18, 48, 49, 50, 51, 52, 53, 54, 55, 56, 57, 58, 59, 60, 61, 62, 63, 64] (by decide +kernel) (by decide +kernel)
set_option maxRecDepth 20000 in
theorem gX7_reads_X7_skips : GoodIn wsX7_reads (wsV RX7 176 RX7 yX7_skips wsX7_skips) := goodIn_app (goodIn_of _ (by decide +kernel)) ggX7_reads_X7_skips
set_option maxRecDepth 20000 in
theorem ggX7_reads_X7_isRow : GoodIn wsX7_reads wsX7_isRow := goodIn_r _ [22, 1, 14, 15, 16, 6, 17, 2, 18, 23, 24, 25, 10, 11, 12, 13, 26, 27, 28, 29, 9, 48, 49, 50, 51, 52, 53, 54, 55, 56, 57, 58, 59, 60, 61, 62, 63, 64] (by decide +kernel) (by decide +kernel)
set_option maxRecDepth 20000 in
theorem gX7_reads_X7_isRow : GoodIn wsX7_reads (wsV RX7 183 RX7 yX7_isRow wsX7_isRow) := goodIn_app (goodIn_of _ (by decide +kernel)) ggX7_reads_X7_isRow
set_option maxRecDepth 20000 in
theorem ggX7_reads_X7_back : GoodIn wsX7_reads wsX7_back := goodIn_r _ [33, 9, 8, 48, 49, 50, 51, 52, 53, 54, 55, 56, 57, 58, 59, 60, 61, 62, 63, 64] (by decide +kernel) (by decide +kernel)
set_option maxRecDepth 20000 in
theorem gX7_reads_X7_back : GoodIn wsX7_reads (wsV RX7 164 RX7 yX7_back wsX7_back) := goodIn_app (goodIn_of _ (by decide +kernel)) ggX7_reads_X7_back
set_option maxRecDepth 20000 in
theorem ggX7_reads_X7_keeps : GoodIn wsX7_reads wsX7_keeps := goodIn_r _ [37, 38, 39, 8, 48, 49, 50, 51, 52, 53, 54, 55, 56, 57, 58, 59, 60, 61, 62, 63, 64] (by decide +kernel) (by decide +kernel)
set_option maxRecDepth 20000 in
theorem gX7_reads_X7_keeps : GoodIn wsX7_reads (wsV RX7 71 RX7 yX7_keeps wsX7_keeps) := goodIn_app (goodIn_of _ (by decide +kernel)) ggX7_reads_X7_keeps
set_option maxRecDepth 20000 in
theorem ggX7_reads_X7_settles : GoodIn wsX7_reads wsX7_settles := goodIn_r _ [43, 9, 44, 45, 46, 6, 47, 48, 49, 50, 51, 52, 53, 54, 55, 56, 57, 58, 59, 60, 61, 62, 63, 64] (by decide +kernel) (by decide +kernel)
set_option maxRecDepth 20000 in
theorem gX7_reads_X7_settles : GoodIn wsX7_reads (wsV RX7 74 RX7 yX7_settles wsX7_settles) := goodIn_app (goodIn_of _ (by decide +kernel)) ggX7_reads_X7_settles
theorem dX7_reads_0 : decode cX7_reads 0 = .ok (.aload_n 0, 1) := by decide +kernel
theorem dX7_reads_1 : decode cX7_reads 1 = .ok (.invokevirtual 68, 3) := by decide +kernel
theorem dX7_reads_4 : decode cX7_reads 4 = .ok (.iconst 0, 1) := by decide +kernel
theorem dX7_reads_5 : decode cX7_reads 5 = .ok (.istore_n 1, 1) := by decide +kernel
theorem dX7_reads_6 : decode cX7_reads 6 = .ok (.aload_n 0, 1) := by decide +kernel
theorem dX7_reads_7 : decode cX7_reads 7 = .ok (.iconst 0, 1) := by decide +kernel
theorem dX7_reads_8 : decode cX7_reads 8 = .ok (.putfield 170, 3) := by decide +kernel
theorem dX7_reads_11 : decode cX7_reads 11 = .ok (.aload_n 0, 1) := by decide +kernel
theorem dX7_reads_12 : decode cX7_reads 12 = .ok (.invokevirtual 176, 3) := by decide +kernel
theorem dX7_reads_15 : decode cX7_reads 15 = .ok (.iconst 1, 1) := by decide +kernel
theorem dX7_reads_16 : decode cX7_reads 16 = .ok (.istore_n 2, 1) := by decide +kernel
theorem dX7_reads_17 : decode cX7_reads 17 = .ok (.iload_n 2, 1) := by decide +kernel
theorem dX7_reads_18 : decode cX7_reads 18 = .ok (.ifCond .eq 33, 3) := by decide +kernel
theorem dX7_reads_21 : decode cX7_reads 21 = .ok (.aload_n 0, 1) := by decide +kernel
theorem dX7_reads_22 : decode cX7_reads 22 = .ok (.getfield 170, 3) := by decide +kernel
theorem dX7_reads_25 : decode cX7_reads 25 = .ok (.aload_n 0, 1) := by decide +kernel
theorem dX7_reads_26 : decode cX7_reads 26 = .ok (.getfield 167, 3) := by decide +kernel
theorem dX7_reads_29 : decode cX7_reads 29 = .ok (.if_icmp .lt 7, 3) := by decide +kernel
theorem dX7_reads_32 : decode cX7_reads 32 = .ok (.iload_n 1, 1) := by decide +kernel
theorem dX7_reads_33 : decode cX7_reads 33 = .ok (.ifCond .ne 18, 3) := by decide +kernel
theorem dX7_reads_36 : decode cX7_reads 36 = .ok (.aload_n 0, 1) := by decide +kernel
theorem dX7_reads_37 : decode cX7_reads 37 = .ok (.invokevirtual 183, 3) := by decide +kernel
theorem dX7_reads_40 : decode cX7_reads 40 = .ok (.istore_n 2, 1) := by decide +kernel
theorem dX7_reads_41 : decode cX7_reads 41 = .ok (.iinc 1 1, 3) := by decide +kernel
theorem dX7_reads_44 : decode cX7_reads 44 = .ok (.aload_n 0, 1) := by decide +kernel
theorem dX7_reads_45 : decode cX7_reads 45 = .ok (.invokevirtual 176, 3) := by decide +kernel
theorem dX7_reads_48 : decode cX7_reads 48 = .ok (.goto (-31), 3) := by decide +kernel
theorem dX7_reads_51 : decode cX7_reads 51 = .ok (.iload_n 2, 1) := by decide +kernel
theorem dX7_reads_52 : decode cX7_reads 52 = .ok (.ifCond .ne 15, 3) := by decide +kernel
theorem dX7_reads_55 : decode cX7_reads 55 = .ok (.aload_n 0, 1) := by decide +kernel
theorem dX7_reads_56 : decode cX7_reads 56 = .ok (.invokevirtual 164, 3) := by decide +kernel
theorem dX7_reads_59 : decode cX7_reads 59 = .ok (.bipush (-10), 2) := by decide +kernel
theorem dX7_reads_61 : decode cX7_reads 61 = .ok (.aload_n 0, 1) := by decide +kernel
theorem dX7_reads_62 : decode cX7_reads 62 = .ok (.getfield 170, 3) := by decide +kernel
theorem dX7_reads_65 : decode cX7_reads 65 = .ok (.isub, 1) := by decide +kernel
theorem dX7_reads_66 : decode cX7_reads 66 = .ok (.ireturn, 1) := by decide +kernel
theorem dX7_reads_67 : decode cX7_reads 67 = .ok (.aload_n 0, 1) := by decide +kernel
theorem dX7_reads_68 : decode cX7_reads 68 = .ok (.invokevirtual 71, 3) := by decide +kernel
theorem dX7_reads_71 : decode cX7_reads 71 = .ok (.aload_n 0, 1) := by decide +kernel
theorem dX7_reads_72 : decode cX7_reads 72 = .ok (.invokevirtual 74, 3) := by decide +kernel
theorem dX7_reads_75 : decode cX7_reads 75 = .ok (.iload_n 1, 1) := by decide +kernel
theorem dX7_reads_76 : decode cX7_reads 76 = .ok (.ireturn, 1) := by decide +kernel
theorem dX7_toldOf_0 : decode cX7_toldOf 0 = .ok (.iload_n 1, 1) := by decide +kernel
theorem dX7_toldOf_1 : decode cX7_toldOf 1 = .ok (.tableswitch 80 0 9 #[55, 55, 55, 62, 80, 80, 80, 80, 67, 75], 55) := by decide +kernel
theorem dX7_toldOf_56 : decode cX7_toldOf 56 = .ok (.aload_n 0, 1) := by decide +kernel
theorem dX7_toldOf_57 : decode cX7_toldOf 57 = .ok (.getfield 22, 3) := by decide +kernel
theorem dX7_toldOf_60 : decode cX7_toldOf 60 = .ok (.iload_n 1, 1) := by decide +kernel
theorem dX7_toldOf_61 : decode cX7_toldOf 61 = .ok (.iaload, 1) := by decide +kernel
theorem dX7_toldOf_62 : decode cX7_toldOf 62 = .ok (.ireturn, 1) := by decide +kernel
theorem dX7_toldOf_63 : decode cX7_toldOf 63 = .ok (.aload_n 0, 1) := by decide +kernel
theorem dX7_toldOf_64 : decode cX7_toldOf 64 = .ok (.getfield 167, 3) := by decide +kernel
theorem dX7_toldOf_67 : decode cX7_toldOf 67 = .ok (.ireturn, 1) := by decide +kernel
theorem dX7_toldOf_68 : decode cX7_toldOf 68 = .ok (.aload_n 0, 1) := by decide +kernel
theorem dX7_toldOf_69 : decode cX7_toldOf 69 = .ok (.getfield 19, 3) := by decide +kernel
theorem dX7_toldOf_72 : decode cX7_toldOf 72 = .ok (.bipush 7, 2) := by decide +kernel
theorem dX7_toldOf_74 : decode cX7_toldOf 74 = .ok (.iaload, 1) := by decide +kernel
theorem dX7_toldOf_75 : decode cX7_toldOf 75 = .ok (.ireturn, 1) := by decide +kernel
theorem dX7_toldOf_76 : decode cX7_toldOf 76 = .ok (.aload_n 0, 1) := by decide +kernel
theorem dX7_toldOf_77 : decode cX7_toldOf 77 = .ok (.getfield 53, 3) := by decide +kernel
theorem dX7_toldOf_80 : decode cX7_toldOf 80 = .ok (.ireturn, 1) := by decide +kernel
theorem dX7_toldOf_81 : decode cX7_toldOf 81 = .ok (.aload_n 0, 1) := by decide +kernel
theorem dX7_toldOf_82 : decode cX7_toldOf 82 = .ok (.getfield 19, 3) := by decide +kernel
theorem dX7_toldOf_85 : decode cX7_toldOf 85 = .ok (.iload_n 1, 1) := by decide +kernel
theorem dX7_toldOf_86 : decode cX7_toldOf 86 = .ok (.iconst 4, 1) := by decide +kernel
theorem dX7_toldOf_87 : decode cX7_toldOf 87 = .ok (.isub, 1) := by decide +kernel
theorem dX7_toldOf_88 : decode cX7_toldOf 88 = .ok (.iaload, 1) := by decide +kernel
theorem dX7_toldOf_89 : decode cX7_toldOf 89 = .ok (.ireturn, 1) := by decide +kernel
set_option maxRecDepth 20000 in
theorem ggX7_told_X7_in : GoodIn wsX7_told wsX7_in := goodIn_r _ [4] (by decide +kernel) (by decide +kernel)
set_option maxRecDepth 20000 in
theorem gX7_told_X7_in : GoodIn wsX7_told (va_wsS RX7 49 yX7_in wsX7_in) := goodIn_app (goodIn_of _ (by decide +kernel)) ggX7_told_X7_in
set_option maxRecDepth 20000 in
theorem ggX7_told_X7_toldOf : GoodIn wsX7_told wsX7_toldOf := goodIn_r _ [8, 9, 10, 11, 12, 17, 18, 19, 20, 21, 22, 23, 24, 25, 26, 27, 28, 29, 30, 31, 32, 33] (by decide +kernel) (by decide +kernel)
set_option maxRecDepth 20000 in
theorem gX7_told_X7_toldOf : GoodIn wsX7_told (wsV RX7 186 RX7 yX7_toldOf wsX7_toldOf) := goodIn_app (goodIn_of _ (by decide +kernel)) ggX7_told_X7_toldOf
set_option maxRecDepth 20000 in
theorem ggX7_told_X7_refuses : GoodIn wsX7_told wsX7_refuses := goodIn_r _ [16, 9, 17, 18, 19, 20, 21, 22, 23, 24, 25, 26, 27, 28, 29, 30, 31, 32, 33] (by decide +kernel) (by decide +kernel)
set_option maxRecDepth 20000 in
theorem gX7_told_X7_refuses : GoodIn wsX7_told (wsV RX7 65 RX7 yX7_refuses wsX7_refuses) := goodIn_app (goodIn_of _ (by decide +kernel)) ggX7_told_X7_refuses
theorem dX7_told_0 : decode cX7_told 0 = .ok (.iload_n 1, 1) := by decide +kernel
theorem dX7_told_1 : decode cX7_told 1 = .ok (.iconst 0, 1) := by decide +kernel
theorem dX7_told_2 : decode cX7_told 2 = .ok (.bipush 9, 2) := by decide +kernel
theorem dX7_told_4 : decode cX7_told 4 = .ok (.invokestatic 49, 3) := by decide +kernel
theorem dX7_told_7 : decode cX7_told 7 = .ok (.ifCond .eq 11, 3) := by decide +kernel
theorem dX7_told_10 : decode cX7_told 10 = .ok (.aload_n 0, 1) := by decide +kernel
theorem dX7_told_11 : decode cX7_told 11 = .ok (.iload_n 1, 1) := by decide +kernel
theorem dX7_told_12 : decode cX7_told 12 = .ok (.invokevirtual 186, 3) := by decide +kernel
theorem dX7_told_15 : decode cX7_told 15 = .ok (.goto 9, 3) := by decide +kernel
theorem dX7_told_18 : decode cX7_told 18 = .ok (.aload_n 0, 1) := by decide +kernel
theorem dX7_told_19 : decode cX7_told 19 = .ok (.bipush (-2), 2) := by decide +kernel
theorem dX7_told_21 : decode cX7_told 21 = .ok (.invokevirtual 65, 3) := by decide +kernel
theorem dX7_told_24 : decode cX7_told 24 = .ok (.ireturn, 1) := by decide +kernel
set_option maxRecDepth 20000 in
theorem ggX7_digest_X7_toldOf : GoodIn wsX7_digest wsX7_toldOf := goodIn_r _ [10, 11, 12, 3, 13, 47, 48, 49, 50, 51, 52, 53, 54, 55, 56, 57, 58, 59, 60, 61, 62, 63] (by decide +kernel) (by decide +kernel)
set_option maxRecDepth 20000 in
theorem gX7_digest_X7_toldOf : GoodIn wsX7_digest (wsV RX7 186 RX7 yX7_toldOf wsX7_toldOf) := goodIn_app (goodIn_of _ (by decide +kernel)) ggX7_digest_X7_toldOf
set_option maxRecDepth 20000 in
theorem ggX7_digest_X7_laysSums : GoodIn wsX7_digest wsX7_laysSums := goodIn_r _ [17, 18, 3, 19, 20, 21, 9, 22, 23, 24, 25, 26, 4, 47, 48, 49, 50, 51, 52, 53, 54, 55, 56, 57, 58, 59, 60, 61, 62, 63] (by decide +kernel) (by decide +kernel)
set_option maxRecDepth 20000 in
theorem gX7_digest_X7_laysSums : GoodIn wsX7_digest (wsV RX7 103 RX7 yX7_laysSums wsX7_laysSums) := goodIn_app (goodIn_of _ (by decide +kernel)) ggX7_digest_X7_laysSums
set_option maxRecDepth 20000 in
theorem ggX7_digest_X7_windowsNow : GoodIn wsX7_digest wsX7_windowsNow := goodIn_r _ [30, 18, 3, 31, 32, 33, 9, 34, 47, 48, 49, 50, 51, 52, 53, 54, 55, 56, 57, 58, 59, 60, 61, 62, 63] (by decide +kernel) (by decide +kernel)
set_option maxRecDepth 20000 in
theorem gX7_digest_X7_windowsNow : GoodIn wsX7_digest (wsV RX7 128 RX7 yX7_windowsNow wsX7_windowsNow) := goodIn_app (goodIn_of _ (by decide +kernel)) ggX7_digest_X7_windowsNow
set_option maxRecDepth 20000 in
theorem ggX7_digest_X7_laysBurdens : GoodIn wsX7_digest wsX7_laysBurdens := goodIn_r _ [38, 5, 4, 39, 40, 41, 9, 42, 43, 44, 45, 46, 47, 48, 49, 50, 51, 52, 53, 54, 55, 56, 57, 58, 59, 60, 61, 62, 63] (by decide +kernel) (by decide +kernel)
set_option maxRecDepth 20000 in
theorem gX7_digest_X7_laysBurdens : GoodIn wsX7_digest (wsV RX7 109 RX7 yX7_laysBurdens wsX7_laysBurdens) := goodIn_app (goodIn_of _ (by decide +kernel)) ggX7_digest_X7_laysBurdens
theorem dX7_digest_0 : decode cX7_digest 0 = .ok (.ldc2_w 189, 3) := by decide +kernel
theorem dX7_digest_3 : decode cX7_digest 3 = .ok (.lstore_n 1, 1) := by decide +kernel
theorem dX7_digest_4 : decode cX7_digest 4 = .ok (.iconst 0, 1) := by decide +kernel
theorem dX7_digest_5 : decode cX7_digest 5 = .ok (.istore_n 3, 1) := by decide +kernel
theorem dX7_digest_6 : decode cX7_digest 6 = .ok (.iload_n 3, 1) := by decide +kernel
theorem dX7_digest_7 : decode cX7_digest 7 = .ok (.bipush 10, 2) := by decide +kernel
theorem dX7_digest_9 : decode cX7_digest 9 = .ok (.if_icmp .ge 22, 3) := by decide +kernel
theorem dX7_digest_12 : decode cX7_digest 12 = .ok (.ldc2_w 191, 3) := by decide +kernel
theorem dX7_digest_15 : decode cX7_digest 15 = .ok (.lload_n 1, 1) := by decide +kernel
theorem dX7_digest_16 : decode cX7_digest 16 = .ok (.lmul, 1) := by decide +kernel
theorem dX7_digest_17 : decode cX7_digest 17 = .ok (.aload_n 0, 1) := by decide +kernel
theorem dX7_digest_18 : decode cX7_digest 18 = .ok (.iload_n 3, 1) := by decide +kernel
theorem dX7_digest_19 : decode cX7_digest 19 = .ok (.invokevirtual 186, 3) := by decide +kernel
theorem dX7_digest_22 : decode cX7_digest 22 = .ok (.i2l, 1) := by decide +kernel
theorem dX7_digest_23 : decode cX7_digest 23 = .ok (.ladd, 1) := by decide +kernel
theorem dX7_digest_24 : decode cX7_digest 24 = .ok (.lstore_n 1, 1) := by decide +kernel
theorem dX7_digest_25 : decode cX7_digest 25 = .ok (.iinc 3 1, 3) := by decide +kernel
theorem dX7_digest_28 : decode cX7_digest 28 = .ok (.goto (-22), 3) := by decide +kernel
theorem dX7_digest_31 : decode cX7_digest 31 = .ok (.iconst 0, 1) := by decide +kernel
theorem dX7_digest_32 : decode cX7_digest 32 = .ok (.istore_n 3, 1) := by decide +kernel
theorem dX7_digest_33 : decode cX7_digest 33 = .ok (.iload_n 3, 1) := by decide +kernel
theorem dX7_digest_34 : decode cX7_digest 34 = .ok (.iconst 3, 1) := by decide +kernel
theorem dX7_digest_35 : decode cX7_digest 35 = .ok (.if_icmp .ge 25, 3) := by decide +kernel
theorem dX7_digest_38 : decode cX7_digest 38 = .ok (.ldc2_w 191, 3) := by decide +kernel
theorem dX7_digest_41 : decode cX7_digest 41 = .ok (.lload_n 1, 1) := by decide +kernel
theorem dX7_digest_42 : decode cX7_digest 42 = .ok (.lmul, 1) := by decide +kernel
theorem dX7_digest_43 : decode cX7_digest 43 = .ok (.aload_n 0, 1) := by decide +kernel
theorem dX7_digest_44 : decode cX7_digest 44 = .ok (.getfield 19, 3) := by decide +kernel
theorem dX7_digest_47 : decode cX7_digest 47 = .ok (.iconst 4, 1) := by decide +kernel
theorem dX7_digest_48 : decode cX7_digest 48 = .ok (.iload_n 3, 1) := by decide +kernel
theorem dX7_digest_49 : decode cX7_digest 49 = .ok (.iadd, 1) := by decide +kernel
theorem dX7_digest_50 : decode cX7_digest 50 = .ok (.iaload, 1) := by decide +kernel
theorem dX7_digest_51 : decode cX7_digest 51 = .ok (.i2l, 1) := by decide +kernel
theorem dX7_digest_52 : decode cX7_digest 52 = .ok (.ladd, 1) := by decide +kernel
theorem dX7_digest_53 : decode cX7_digest 53 = .ok (.lstore_n 1, 1) := by decide +kernel
theorem dX7_digest_54 : decode cX7_digest 54 = .ok (.iinc 3 1, 3) := by decide +kernel
theorem dX7_digest_57 : decode cX7_digest 57 = .ok (.goto (-24), 3) := by decide +kernel
theorem dX7_digest_60 : decode cX7_digest 60 = .ok (.iconst 0, 1) := by decide +kernel
theorem dX7_digest_61 : decode cX7_digest 61 = .ok (.istore_n 3, 1) := by decide +kernel
theorem dX7_digest_62 : decode cX7_digest 62 = .ok (.iload_n 3, 1) := by decide +kernel
theorem dX7_digest_63 : decode cX7_digest 63 = .ok (.bipush 80, 2) := by decide +kernel
theorem dX7_digest_65 : decode cX7_digest 65 = .ok (.if_icmp .ge 44, 3) := by decide +kernel
theorem dX7_digest_68 : decode cX7_digest 68 = .ok (.iconst 0, 1) := by decide +kernel
theorem dX7_digest_69 : decode cX7_digest 69 = .ok (.istore 4, 2) := by decide +kernel
theorem dX7_digest_71 : decode cX7_digest 71 = .ok (.iload 4, 2) := by decide +kernel
theorem dX7_digest_73 : decode cX7_digest 73 = .ok (.iconst 5, 1) := by decide +kernel
theorem dX7_digest_74 : decode cX7_digest 74 = .ok (.if_icmp .ge 29, 3) := by decide +kernel
theorem dX7_digest_77 : decode cX7_digest 77 = .ok (.ldc2_w 191, 3) := by decide +kernel
theorem dX7_digest_80 : decode cX7_digest 80 = .ok (.lload_n 1, 1) := by decide +kernel
theorem dX7_digest_81 : decode cX7_digest 81 = .ok (.lmul, 1) := by decide +kernel
theorem dX7_digest_82 : decode cX7_digest 82 = .ok (.aload_n 0, 1) := by decide +kernel
theorem dX7_digest_83 : decode cX7_digest 83 = .ok (.getfield 7, 3) := by decide +kernel
theorem dX7_digest_86 : decode cX7_digest 86 = .ok (.bipush 80, 2) := by decide +kernel
theorem dX7_digest_88 : decode cX7_digest 88 = .ok (.iload 4, 2) := by decide +kernel
theorem dX7_digest_90 : decode cX7_digest 90 = .ok (.imul, 1) := by decide +kernel
theorem dX7_digest_91 : decode cX7_digest 91 = .ok (.iload_n 3, 1) := by decide +kernel
theorem dX7_digest_92 : decode cX7_digest 92 = .ok (.iadd, 1) := by decide +kernel
theorem dX7_digest_93 : decode cX7_digest 93 = .ok (.iaload, 1) := by decide +kernel
theorem dX7_digest_94 : decode cX7_digest 94 = .ok (.i2l, 1) := by decide +kernel
theorem dX7_digest_95 : decode cX7_digest 95 = .ok (.ladd, 1) := by decide +kernel
theorem dX7_digest_96 : decode cX7_digest 96 = .ok (.lstore_n 1, 1) := by decide +kernel
theorem dX7_digest_97 : decode cX7_digest 97 = .ok (.iinc 4 1, 3) := by decide +kernel
theorem dX7_digest_100 : decode cX7_digest 100 = .ok (.goto (-29), 3) := by decide +kernel
theorem dX7_digest_103 : decode cX7_digest 103 = .ok (.iinc 3 1, 3) := by decide +kernel
theorem dX7_digest_106 : decode cX7_digest 106 = .ok (.goto (-44), 3) := by decide +kernel
theorem dX7_digest_109 : decode cX7_digest 109 = .ok (.aload_n 0, 1) := by decide +kernel
theorem dX7_digest_110 : decode cX7_digest 110 = .ok (.invokevirtual 103, 3) := by decide +kernel
theorem dX7_digest_113 : decode cX7_digest 113 = .ok (.ldc2_w 191, 3) := by decide +kernel
theorem dX7_digest_116 : decode cX7_digest 116 = .ok (.lload_n 1, 1) := by decide +kernel
theorem dX7_digest_117 : decode cX7_digest 117 = .ok (.lmul, 1) := by decide +kernel
theorem dX7_digest_118 : decode cX7_digest 118 = .ok (.aload_n 0, 1) := by decide +kernel
theorem dX7_digest_119 : decode cX7_digest 119 = .ok (.iconst 1, 1) := by decide +kernel
theorem dX7_digest_120 : decode cX7_digest 120 = .ok (.invokevirtual 128, 3) := by decide +kernel
theorem dX7_digest_123 : decode cX7_digest 123 = .ok (.i2l, 1) := by decide +kernel
theorem dX7_digest_124 : decode cX7_digest 124 = .ok (.ladd, 1) := by decide +kernel
theorem dX7_digest_125 : decode cX7_digest 125 = .ok (.lstore_n 1, 1) := by decide +kernel
theorem dX7_digest_126 : decode cX7_digest 126 = .ok (.ldc2_w 191, 3) := by decide +kernel
theorem dX7_digest_129 : decode cX7_digest 129 = .ok (.lload_n 1, 1) := by decide +kernel
theorem dX7_digest_130 : decode cX7_digest 130 = .ok (.lmul, 1) := by decide +kernel
theorem dX7_digest_131 : decode cX7_digest 131 = .ok (.aload_n 0, 1) := by decide +kernel
theorem dX7_digest_132 : decode cX7_digest 132 = .ok (.iconst 2, 1) := by decide +kernel
theorem dX7_digest_133 : decode cX7_digest 133 = .ok (.invokevirtual 128, 3) := by decide +kernel
theorem dX7_digest_136 : decode cX7_digest 136 = .ok (.i2l, 1) := by decide +kernel
theorem dX7_digest_137 : decode cX7_digest 137 = .ok (.ladd, 1) := by decide +kernel
theorem dX7_digest_138 : decode cX7_digest 138 = .ok (.lstore_n 1, 1) := by decide +kernel
theorem dX7_digest_139 : decode cX7_digest 139 = .ok (.aload_n 0, 1) := by decide +kernel
theorem dX7_digest_140 : decode cX7_digest 140 = .ok (.invokevirtual 109, 3) := by decide +kernel
theorem dX7_digest_143 : decode cX7_digest 143 = .ok (.iconst 1, 1) := by decide +kernel
theorem dX7_digest_144 : decode cX7_digest 144 = .ok (.istore_n 3, 1) := by decide +kernel
theorem dX7_digest_145 : decode cX7_digest 145 = .ok (.iload_n 3, 1) := by decide +kernel
theorem dX7_digest_146 : decode cX7_digest 146 = .ok (.iconst 4, 1) := by decide +kernel
theorem dX7_digest_147 : decode cX7_digest 147 = .ok (.if_icmp .ge 23, 3) := by decide +kernel
theorem dX7_digest_150 : decode cX7_digest 150 = .ok (.ldc2_w 191, 3) := by decide +kernel
theorem dX7_digest_153 : decode cX7_digest 153 = .ok (.lload_n 1, 1) := by decide +kernel
theorem dX7_digest_154 : decode cX7_digest 154 = .ok (.lmul, 1) := by decide +kernel
theorem dX7_digest_155 : decode cX7_digest 155 = .ok (.aload_n 0, 1) := by decide +kernel
theorem dX7_digest_156 : decode cX7_digest 156 = .ok (.getfield 40, 3) := by decide +kernel
theorem dX7_digest_159 : decode cX7_digest 159 = .ok (.iload_n 3, 1) := by decide +kernel
theorem dX7_digest_160 : decode cX7_digest 160 = .ok (.iaload, 1) := by decide +kernel
theorem dX7_digest_161 : decode cX7_digest 161 = .ok (.i2l, 1) := by decide +kernel
theorem dX7_digest_162 : decode cX7_digest 162 = .ok (.ladd, 1) := by decide +kernel
theorem dX7_digest_163 : decode cX7_digest 163 = .ok (.lstore_n 1, 1) := by decide +kernel
theorem dX7_digest_164 : decode cX7_digest 164 = .ok (.iinc 3 1, 3) := by decide +kernel
theorem dX7_digest_167 : decode cX7_digest 167 = .ok (.goto (-22), 3) := by decide +kernel
theorem dX7_digest_170 : decode cX7_digest 170 = .ok (.lload_n 1, 1) := by decide +kernel
theorem dX7_digest_171 : decode cX7_digest 171 = .ok (.lreturn, 1) := by decide +kernel
