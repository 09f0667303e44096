theorem dX0_init_0 : decode cX0_init 0 = .ok (.aload_n 0, 1) := by decide +kernel
theorem dX0_init_1 : decode cX0_init 1 = .ok (.invokespecial 3, 3) := by decide +kernel
theorem dX0_init_4 : decode cX0_init 4 = .ok (.aload_n 0, 1) := by decide +kernel
theorem dX0_init_5 : decode cX0_init 5 = .ok (.bipush 80, 2) := by decide +kernel
theorem dX0_init_7 : decode cX0_init 7 = .ok (.newarray .int, 2) := by decide +kernel
theorem dX0_init_9 : decode cX0_init 9 = .ok (.putfield 9, 3) := by decide +kernel
theorem dX0_init_12 : decode cX0_init 12 = .ok (.aload_n 0, 1) := by decide +kernel
theorem dX0_init_13 : decode cX0_init 13 = .ok (.bipush 80, 2) := by decide +kernel
theorem dX0_init_15 : decode cX0_init 15 = .ok (.newarray .int, 2) := by decide +kernel
theorem dX0_init_17 : decode cX0_init 17 = .ok (.putfield 15, 3) := by decide +kernel
theorem dX0_init_20 : decode cX0_init 20 = .ok (.aload_n 0, 1) := by decide +kernel
theorem dX0_init_21 : decode cX0_init 21 = .ok (.bipush 80, 2) := by decide +kernel
theorem dX0_init_23 : decode cX0_init 23 = .ok (.newarray .int, 2) := by decide +kernel
theorem dX0_init_25 : decode cX0_init 25 = .ok (.putfield 18, 3) := by decide +kernel
theorem dX0_init_28 : decode cX0_init 28 = .ok (.aload_n 0, 1) := by decide +kernel
theorem dX0_init_29 : decode cX0_init 29 = .ok (.bipush 80, 2) := by decide +kernel
theorem dX0_init_31 : decode cX0_init 31 = .ok (.newarray .int, 2) := by decide +kernel
theorem dX0_init_33 : decode cX0_init 33 = .ok (.putfield 21, 3) := by decide +kernel
theorem dX0_init_36 : decode cX0_init 36 = .ok (.aload_n 0, 1) := by decide +kernel
theorem dX0_init_37 : decode cX0_init 37 = .ok (.bipush 80, 2) := by decide +kernel
theorem dX0_init_39 : decode cX0_init 39 = .ok (.newarray .int, 2) := by decide +kernel
theorem dX0_init_41 : decode cX0_init 41 = .ok (.putfield 24, 3) := by decide +kernel
theorem dX0_init_44 : decode cX0_init 44 = .ok (.return_, 1) := by decide +kernel
theorem dX0_part_0 : decode cX0_part 0 = .ok (.iload_n 1, 1) := by decide +kernel
theorem dX0_part_1 : decode cX0_part 1 = .ok (.tableswitch 51 0 3 #[31, 36, 41, 46], 31) := by decide +kernel
theorem dX0_part_32 : decode cX0_part 32 = .ok (.aload_n 0, 1) := by decide +kernel
theorem dX0_part_33 : decode cX0_part 33 = .ok (.getfield 9, 3) := by decide +kernel
theorem dX0_part_36 : decode cX0_part 36 = .ok (.areturn, 1) := by decide +kernel
theorem dX0_part_37 : decode cX0_part 37 = .ok (.aload_n 0, 1) := by decide +kernel
theorem dX0_part_38 : decode cX0_part 38 = .ok (.getfield 15, 3) := by decide +kernel
theorem dX0_part_41 : decode cX0_part 41 = .ok (.areturn, 1) := by decide +kernel
theorem dX0_part_42 : decode cX0_part 42 = .ok (.aload_n 0, 1) := by decide +kernel
theorem dX0_part_43 : decode cX0_part 43 = .ok (.getfield 18, 3) := by decide +kernel
theorem dX0_part_46 : decode cX0_part 46 = .ok (.areturn, 1) := by decide +kernel
theorem dX0_part_47 : decode cX0_part 47 = .ok (.aload_n 0, 1) := by decide +kernel
theorem dX0_part_48 : decode cX0_part 48 = .ok (.getfield 21, 3) := by decide +kernel
theorem dX0_part_51 : decode cX0_part 51 = .ok (.areturn, 1) := by decide +kernel
theorem dX0_part_52 : decode cX0_part 52 = .ok (.aload_n 0, 1) := by decide +kernel
theorem dX0_part_53 : decode cX0_part 53 = .ok (.getfield 24, 3) := by decide +kernel
theorem dX0_part_56 : decode cX0_part 56 = .ok (.areturn, 1) := by decide +kernel
theorem dX0_sumOf_0 : decode cX0_sumOf 0 = .ok (.aload_n 0, 1) := by decide +kernel
theorem dX0_sumOf_1 : decode cX0_sumOf 1 = .ok (.getfield 9, 3) := by decide +kernel
theorem dX0_sumOf_4 : decode cX0_sumOf 4 = .ok (.iload_n 1, 1) := by decide +kernel
theorem dX0_sumOf_5 : decode cX0_sumOf 5 = .ok (.iaload, 1) := by decide +kernel
theorem dX0_sumOf_6 : decode cX0_sumOf 6 = .ok (.aload_n 0, 1) := by decide +kernel
theorem dX0_sumOf_7 : decode cX0_sumOf 7 = .ok (.getfield 24, 3) := by decide +kernel
theorem dX0_sumOf_10 : decode cX0_sumOf 10 = .ok (.iload_n 1, 1) := by decide +kernel
theorem dX0_sumOf_11 : decode cX0_sumOf 11 = .ok (.iaload, 1) := by decide +kernel
theorem dX0_sumOf_12 : decode cX0_sumOf 12 = .ok (.iadd, 1) := by decide +kernel
theorem dX0_sumOf_13 : decode cX0_sumOf 13 = .ok (.ireturn, 1) := by decide +kernel
theorem dX0_room_0 : decode cX0_room 0 = .ok (.aload_n 0, 1) := by decide +kernel
theorem dX0_room_1 : decode cX0_room 1 = .ok (.getfield 15, 3) := by decide +kernel
theorem dX0_room_4 : decode cX0_room 4 = .ok (.iload_n 1, 1) := by decide +kernel
theorem dX0_room_5 : decode cX0_room 5 = .ok (.iaload, 1) := by decide +kernel
theorem dX0_room_6 : decode cX0_room 6 = .ok (.ifCond .eq 7, 3) := by decide +kernel
theorem dX0_room_9 : decode cX0_room 9 = .ok (.iconst 0, 1) := by decide +kernel
theorem dX0_room_10 : decode cX0_room 10 = .ok (.goto 12, 3) := by decide +kernel
theorem dX0_room_13 : decode cX0_room 13 = .ok (.bipush 9, 2) := by decide +kernel
theorem dX0_room_15 : decode cX0_room 15 = .ok (.aload_n 0, 1) := by decide +kernel
theorem dX0_room_16 : decode cX0_room 16 = .ok (.getfield 9, 3) := by decide +kernel
theorem dX0_room_19 : decode cX0_room 19 = .ok (.iload_n 1, 1) := by decide +kernel
theorem dX0_room_20 : decode cX0_room 20 = .ok (.iaload, 1) := by decide +kernel
theorem dX0_room_21 : decode cX0_room 21 = .ok (.isub, 1) := by decide +kernel
theorem dX0_room_22 : decode cX0_room 22 = .ok (.ireturn, 1) := by decide +kernel
theorem dX0_countFilled_0 : decode cX0_countFilled 0 = .ok (.iconst 0, 1) := by decide +kernel
theorem dX0_countFilled_1 : decode cX0_countFilled 1 = .ok (.istore_n 1, 1) := by decide +kernel
theorem dX0_countFilled_2 : decode cX0_countFilled 2 = .ok (.iconst 0, 1) := by decide +kernel
theorem dX0_countFilled_3 : decode cX0_countFilled 3 = .ok (.istore_n 2, 1) := by decide +kernel
theorem dX0_countFilled_4 : decode cX0_countFilled 4 = .ok (.iload_n 2, 1) := by decide +kernel
theorem dX0_countFilled_5 : decode cX0_countFilled 5 = .ok (.bipush 80, 2) := by decide +kernel
theorem dX0_countFilled_7 : decode cX0_countFilled 7 = .ok (.if_icmp .ge 21, 3) := by decide +kernel
theorem dX0_countFilled_10 : decode cX0_countFilled 10 = .ok (.aload_n 0, 1) := by decide +kernel
theorem dX0_countFilled_11 : decode cX0_countFilled 11 = .ok (.getfield 24, 3) := by decide +kernel
theorem dX0_countFilled_14 : decode cX0_countFilled 14 = .ok (.iload_n 2, 1) := by decide +kernel
theorem dX0_countFilled_15 : decode cX0_countFilled 15 = .ok (.iaload, 1) := by decide +kernel
theorem dX0_countFilled_16 : decode cX0_countFilled 16 = .ok (.ifCond .le 6, 3) := by decide +kernel
theorem dX0_countFilled_19 : decode cX0_countFilled 19 = .ok (.iinc 1 1, 3) := by decide +kernel
theorem dX0_countFilled_22 : decode cX0_countFilled 22 = .ok (.iinc 2 1, 3) := by decide +kernel
theorem dX0_countFilled_25 : decode cX0_countFilled 25 = .ok (.goto (-21), 3) := by decide +kernel
theorem dX0_countFilled_28 : decode cX0_countFilled 28 = .ok (.iload_n 1, 1) := by decide +kernel
theorem dX0_countFilled_29 : decode cX0_countFilled 29 = .ok (.ireturn, 1) := by decide +kernel
theorem dX0_drawShapes_0 : decode cX0_drawShapes 0 = .ok (.iload_n 2, 1) := by decide +kernel
theorem dX0_drawShapes_1 : decode cX0_drawShapes 1 = .ok (.iconst 0, 1) := by decide +kernel
theorem dX0_drawShapes_2 : decode cX0_drawShapes 2 = .ok (.invokestatic 27, 3) := by decide +kernel
theorem dX0_drawShapes_5 : decode cX0_drawShapes 5 = .ok (.iconst 1, 1) := by decide +kernel
theorem dX0_drawShapes_6 : decode cX0_drawShapes 6 = .ok (.iadd, 1) := by decide +kernel
theorem dX0_drawShapes_7 : decode cX0_drawShapes 7 = .ok (.istore_n 3, 1) := by decide +kernel
theorem dX0_drawShapes_8 : decode cX0_drawShapes 8 = .ok (.iload_n 1, 1) := by decide +kernel
theorem dX0_drawShapes_9 : decode cX0_drawShapes 9 = .ok (.i2l, 1) := by decide +kernel
theorem dX0_drawShapes_10 : decode cX0_drawShapes 10 = .ok (.lstore 4, 2) := by decide +kernel
theorem dX0_drawShapes_12 : decode cX0_drawShapes 12 = .ok (.iconst 0, 1) := by decide +kernel
theorem dX0_drawShapes_13 : decode cX0_drawShapes 13 = .ok (.istore 6, 2) := by decide +kernel
theorem dX0_drawShapes_15 : decode cX0_drawShapes 15 = .ok (.iload 6, 2) := by decide +kernel
theorem dX0_drawShapes_17 : decode cX0_drawShapes 17 = .ok (.bipush 80, 2) := by decide +kernel
theorem dX0_drawShapes_19 : decode cX0_drawShapes 19 = .ok (.if_icmp .ge 42, 3) := by decide +kernel
theorem dX0_drawShapes_22 : decode cX0_drawShapes 22 = .ok (.lload 4, 2) := by decide +kernel
theorem dX0_drawShapes_24 : decode cX0_drawShapes 24 = .ok (.ldc2_w 33, 3) := by decide +kernel
theorem dX0_drawShapes_27 : decode cX0_drawShapes 27 = .ok (.lmul, 1) := by decide +kernel
theorem dX0_drawShapes_28 : decode cX0_drawShapes 28 = .ok (.ldc2_w 35, 3) := by decide +kernel
theorem dX0_drawShapes_31 : decode cX0_drawShapes 31 = .ok (.ladd, 1) := by decide +kernel
theorem dX0_drawShapes_32 : decode cX0_drawShapes 32 = .ok (.ldc2_w 37, 3) := by decide +kernel
theorem dX0_drawShapes_35 : decode cX0_drawShapes 35 = .ok (.lrem, 1) := by decide +kernel
theorem dX0_drawShapes_36 : decode cX0_drawShapes 36 = .ok (.lstore 4, 2) := by decide +kernel
theorem dX0_drawShapes_38 : decode cX0_drawShapes 38 = .ok (.aload_n 0, 1) := by decide +kernel
theorem dX0_drawShapes_39 : decode cX0_drawShapes 39 = .ok (.getfield 9, 3) := by decide +kernel
theorem dX0_drawShapes_42 : decode cX0_drawShapes 42 = .ok (.iload 6, 2) := by decide +kernel
theorem dX0_drawShapes_44 : decode cX0_drawShapes 44 = .ok (.lload 4, 2) := by decide +kernel
theorem dX0_drawShapes_46 : decode cX0_drawShapes 46 = .ok (.ldc2_w 39, 3) := by decide +kernel
theorem dX0_drawShapes_49 : decode cX0_drawShapes 49 = .ok (.ldiv, 1) := by decide +kernel
theorem dX0_drawShapes_50 : decode cX0_drawShapes 50 = .ok (.iload_n 3, 1) := by decide +kernel
theorem dX0_drawShapes_51 : decode cX0_drawShapes 51 = .ok (.i2l, 1) := by decide +kernel
theorem dX0_drawShapes_52 : decode cX0_drawShapes 52 = .ok (.lrem, 1) := by decide +kernel
theorem dX0_drawShapes_53 : decode cX0_drawShapes 53 = .ok (.l2i, 1) := by decide +kernel
theorem dX0_drawShapes_54 : decode cX0_drawShapes 54 = .ok (.iastore, 1) := by decide +kernel
theorem dX0_drawShapes_55 : decode cX0_drawShapes 55 = .ok (.iinc 6 1, 3) := by decide +kernel
theorem dX0_drawShapes_58 : decode cX0_drawShapes 58 = .ok (.goto (-43), 3) := by decide +kernel
theorem dX0_drawShapes_61 : decode cX0_drawShapes 61 = .ok (.return_, 1) := by decide +kernel
set_option maxRecDepth 20000 in
theorem ggX0_settle_X0_room : GoodIn wsX0_settle wsX0_room := goodIn_r _ [10, 11, 12, 18, 19, 20, 21, 22] (by decide +kernel) (by decide +kernel)
set_option maxRecDepth 20000 in
theorem gX0_settle_X0_room : GoodIn wsX0_settle (wsV RX0 41 RX0 yX0_room wsX0_room) := goodIn_app (goodIn_of _ (by decide +kernel)) ggX0_settle_X0_room
set_option maxRecDepth 20000 in
theorem ggX0_settle_X0_makeAlike : GoodIn wsX0_settle wsX0_makeAlike := goodIn_r _ [16, 17, 1, 2, 3, 4, 5, 18, 19, 20, 21, 22] (by decide +kernel) (by decide +kernel)
set_option maxRecDepth 20000 in
theorem gX0_settle_X0_makeAlike : GoodIn wsX0_settle (wsV RX0 48 RX0 yX0_makeAlike wsX0_makeAlike) := goodIn_app (goodIn_of _ (by decide +kernel)) ggX0_settle_X0_makeAlike
theorem dX0_settle_0 : decode cX0_settle 0 = .ok (.iconst 0, 1) := by decide +kernel
theorem dX0_settle_1 : decode cX0_settle 1 = .ok (.istore_n 1, 1) := by decide +kernel
theorem dX0_settle_2 : decode cX0_settle 2 = .ok (.iload_n 1, 1) := by decide +kernel
theorem dX0_settle_3 : decode cX0_settle 3 = .ok (.bipush 80, 2) := by decide +kernel
theorem dX0_settle_5 : decode cX0_settle 5 = .ok (.if_icmp .ge 29, 3) := by decide +kernel
theorem dX0_settle_8 : decode cX0_settle 8 = .ok (.aload_n 0, 1) := by decide +kernel
theorem dX0_settle_9 : decode cX0_settle 9 = .ok (.getfield 24, 3) := by decide +kernel
theorem dX0_settle_12 : decode cX0_settle 12 = .ok (.iload_n 1, 1) := by decide +kernel
theorem dX0_settle_13 : decode cX0_settle 13 = .ok (.aload_n 0, 1) := by decide +kernel
theorem dX0_settle_14 : decode cX0_settle 14 = .ok (.getfield 24, 3) := by decide +kernel
theorem dX0_settle_17 : decode cX0_settle 17 = .ok (.iload_n 1, 1) := by decide +kernel
theorem dX0_settle_18 : decode cX0_settle 18 = .ok (.iaload, 1) := by decide +kernel
theorem dX0_settle_19 : decode cX0_settle 19 = .ok (.aload_n 0, 1) := by decide +kernel
theorem dX0_settle_20 : decode cX0_settle 20 = .ok (.iload_n 1, 1) := by decide +kernel
theorem dX0_settle_21 : decode cX0_settle 21 = .ok (.invokevirtual 41, 3) := by decide +kernel
theorem dX0_settle_24 : decode cX0_settle 24 = .ok (.invokestatic 45, 3) := by decide +kernel
theorem dX0_settle_27 : decode cX0_settle 27 = .ok (.iastore, 1) := by decide +kernel
theorem dX0_settle_28 : decode cX0_settle 28 = .ok (.iinc 1 1, 3) := by decide +kernel
theorem dX0_settle_31 : decode cX0_settle 31 = .ok (.goto (-29), 3) := by decide +kernel
theorem dX0_settle_34 : decode cX0_settle 34 = .ok (.iconst 1, 1) := by decide +kernel
theorem dX0_settle_35 : decode cX0_settle 35 = .ok (.istore_n 1, 1) := by decide +kernel
theorem dX0_settle_36 : decode cX0_settle 36 = .ok (.iload_n 1, 1) := by decide +kernel
theorem dX0_settle_37 : decode cX0_settle 37 = .ok (.iconst 4, 1) := by decide +kernel
theorem dX0_settle_38 : decode cX0_settle 38 = .ok (.if_icmp .ge 14, 3) := by decide +kernel
theorem dX0_settle_41 : decode cX0_settle 41 = .ok (.aload_n 0, 1) := by decide +kernel
theorem dX0_settle_42 : decode cX0_settle 42 = .ok (.iload_n 1, 1) := by decide +kernel
theorem dX0_settle_43 : decode cX0_settle 43 = .ok (.invokevirtual 48, 3) := by decide +kernel
theorem dX0_settle_46 : decode cX0_settle 46 = .ok (.iinc 1 1, 3) := by decide +kernel
theorem dX0_settle_49 : decode cX0_settle 49 = .ok (.goto (-13), 3) := by decide +kernel
theorem dX0_settle_52 : decode cX0_settle 52 = .ok (.return_, 1) := by decide +kernel
theorem dX0_makeAlike_0 : decode cX0_makeAlike 0 = .ok (.bipush 9, 2) := by decide +kernel
theorem dX0_makeAlike_2 : decode cX0_makeAlike 2 = .ok (.istore_n 2, 1) := by decide +kernel
theorem dX0_makeAlike_3 : decode cX0_makeAlike 3 = .ok (.iconst 0, 1) := by decide +kernel
theorem dX0_makeAlike_4 : decode cX0_makeAlike 4 = .ok (.istore_n 3, 1) := by decide +kernel
theorem dX0_makeAlike_5 : decode cX0_makeAlike 5 = .ok (.iload_n 3, 1) := by decide +kernel
theorem dX0_makeAlike_6 : decode cX0_makeAlike 6 = .ok (.bipush 80, 2) := by decide +kernel
theorem dX0_makeAlike_8 : decode cX0_makeAlike 8 = .ok (.if_icmp .ge 30, 3) := by decide +kernel
theorem dX0_makeAlike_11 : decode cX0_makeAlike 11 = .ok (.aload_n 0, 1) := by decide +kernel
theorem dX0_makeAlike_12 : decode cX0_makeAlike 12 = .ok (.getfield 21, 3) := by decide +kernel
theorem dX0_makeAlike_15 : decode cX0_makeAlike 15 = .ok (.iload_n 3, 1) := by decide +kernel
theorem dX0_makeAlike_16 : decode cX0_makeAlike 16 = .ok (.iaload, 1) := by decide +kernel
theorem dX0_makeAlike_17 : decode cX0_makeAlike 17 = .ok (.iload_n 1, 1) := by decide +kernel
theorem dX0_makeAlike_18 : decode cX0_makeAlike 18 = .ok (.if_icmp .ne 14, 3) := by decide +kernel
theorem dX0_makeAlike_21 : decode cX0_makeAlike 21 = .ok (.iload_n 2, 1) := by decide +kernel
theorem dX0_makeAlike_22 : decode cX0_makeAlike 22 = .ok (.aload_n 0, 1) := by decide +kernel
theorem dX0_makeAlike_23 : decode cX0_makeAlike 23 = .ok (.getfield 24, 3) := by decide +kernel
theorem dX0_makeAlike_26 : decode cX0_makeAlike 26 = .ok (.iload_n 3, 1) := by decide +kernel
theorem dX0_makeAlike_27 : decode cX0_makeAlike 27 = .ok (.iaload, 1) := by decide +kernel
theorem dX0_makeAlike_28 : decode cX0_makeAlike 28 = .ok (.invokestatic 45, 3) := by decide +kernel
theorem dX0_makeAlike_31 : decode cX0_makeAlike 31 = .ok (.istore_n 2, 1) := by decide +kernel
theorem dX0_makeAlike_32 : decode cX0_makeAlike 32 = .ok (.iinc 3 1, 3) := by decide +kernel
theorem dX0_makeAlike_35 : decode cX0_makeAlike 35 = .ok (.goto (-30), 3) := by decide +kernel
theorem dX0_makeAlike_38 : decode cX0_makeAlike 38 = .ok (.iconst 0, 1) := by decide +kernel
theorem dX0_makeAlike_39 : decode cX0_makeAlike 39 = .ok (.istore_n 3, 1) := by decide +kernel
theorem dX0_makeAlike_40 : decode cX0_makeAlike 40 = .ok (.iload_n 3, 1) := by decide +kernel
theorem dX0_makeAlike_41 : decode cX0_makeAlike 41 = .ok (.bipush 80, 2) := by decide +kernel
theorem dX0_makeAlike_43 : decode cX0_makeAlike 43 = .ok (.if_icmp .ge 26, 3) := by decide +kernel
theorem dX0_makeAlike_46 : decode cX0_makeAlike 46 = .ok (.aload_n 0, 1) := by decide +kernel
theorem dX0_makeAlike_47 : decode cX0_makeAlike 47 = .ok (.getfield 21, 3) := by decide +kernel
theorem dX0_makeAlike_50 : decode cX0_makeAlike 50 = .ok (.iload_n 3, 1) := by decide +kernel
theorem dX0_makeAlike_51 : decode cX0_makeAlike 51 = .ok (.iaload, 1) := by decide +kernel
theorem dX0_makeAlike_52 : decode cX0_makeAlike 52 = .ok (.iload_n 1, 1) := by decide +kernel
theorem dX0_makeAlike_53 : decode cX0_makeAlike 53 = .ok (.if_icmp .ne 10, 3) := by decide +kernel
theorem dX0_makeAlike_56 : decode cX0_makeAlike 56 = .ok (.aload_n 0, 1) := by decide +kernel
theorem dX0_makeAlike_57 : decode cX0_makeAlike 57 = .ok (.getfield 24, 3) := by decide +kernel
theorem dX0_makeAlike_60 : decode cX0_makeAlike 60 = .ok (.iload_n 3, 1) := by decide +kernel
theorem dX0_makeAlike_61 : decode cX0_makeAlike 61 = .ok (.iload_n 2, 1) := by decide +kernel
theorem dX0_makeAlike_62 : decode cX0_makeAlike 62 = .ok (.iastore, 1) := by decide +kernel
theorem dX0_makeAlike_63 : decode cX0_makeAlike 63 = .ok (.iinc 3 1, 3) := by decide +kernel
theorem dX0_makeAlike_66 : decode cX0_makeAlike 66 = .ok (.goto (-26), 3) := by decide +kernel
theorem dX0_makeAlike_69 : decode cX0_makeAlike 69 = .ok (.return_, 1) := by decide +kernel
theorem dX0_packed_0 : decode cX0_packed 0 = .ok (.aload_n 0, 1) := by decide +kernel
theorem dX0_packed_1 : decode cX0_packed 1 = .ok (.getfield 9, 3) := by decide +kernel
theorem dX0_packed_4 : decode cX0_packed 4 = .ok (.iload_n 1, 1) := by decide +kernel
theorem dX0_packed_5 : decode cX0_packed 5 = .ok (.iaload, 1) := by decide +kernel
theorem dX0_packed_6 : decode cX0_packed 6 = .ok (.aload_n 0, 1) := by decide +kernel
theorem dX0_packed_7 : decode cX0_packed 7 = .ok (.getfield 24, 3) := by decide +kernel
theorem dX0_packed_10 : decode cX0_packed 10 = .ok (.iload_n 1, 1) := by decide +kernel
theorem dX0_packed_11 : decode cX0_packed 11 = .ok (.iaload, 1) := by decide +kernel
theorem dX0_packed_12 : decode cX0_packed 12 = .ok (.iconst 4, 1) := by decide +kernel
theorem dX0_packed_13 : decode cX0_packed 13 = .ok (.ishl, 1) := by decide +kernel
theorem dX0_packed_14 : decode cX0_packed 14 = .ok (.ior, 1) := by decide +kernel
theorem dX0_packed_15 : decode cX0_packed 15 = .ok (.aload_n 0, 1) := by decide +kernel
theorem dX0_packed_16 : decode cX0_packed 16 = .ok (.getfield 15, 3) := by decide +kernel
theorem dX0_packed_19 : decode cX0_packed 19 = .ok (.iload_n 1, 1) := by decide +kernel
theorem dX0_packed_20 : decode cX0_packed 20 = .ok (.iaload, 1) := by decide +kernel
theorem dX0_packed_21 : decode cX0_packed 21 = .ok (.bipush 8, 2) := by decide +kernel
theorem dX0_packed_23 : decode cX0_packed 23 = .ok (.ishl, 1) := by decide +kernel
theorem dX0_packed_24 : decode cX0_packed 24 = .ok (.ior, 1) := by decide +kernel
theorem dX0_packed_25 : decode cX0_packed 25 = .ok (.aload_n 0, 1) := by decide +kernel
theorem dX0_packed_26 : decode cX0_packed 26 = .ok (.getfield 18, 3) := by decide +kernel
theorem dX0_packed_29 : decode cX0_packed 29 = .ok (.iload_n 1, 1) := by decide +kernel
theorem dX0_packed_30 : decode cX0_packed 30 = .ok (.iaload, 1) := by decide +kernel
theorem dX0_packed_31 : decode cX0_packed 31 = .ok (.bipush 9, 2) := by decide +kernel
theorem dX0_packed_33 : decode cX0_packed 33 = .ok (.ishl, 1) := by decide +kernel
theorem dX0_packed_34 : decode cX0_packed 34 = .ok (.ior, 1) := by decide +kernel
theorem dX0_packed_35 : decode cX0_packed 35 = .ok (.aload_n 0, 1) := by decide +kernel
theorem dX0_packed_36 : decode cX0_packed 36 = .ok (.getfield 21, 3) := by decide +kernel
theorem dX0_packed_39 : decode cX0_packed 39 = .ok (.iload_n 1, 1) := by decide +kernel
theorem dX0_packed_40 : decode cX0_packed 40 = .ok (.iaload, 1) := by decide +kernel
theorem dX0_packed_41 : decode cX0_packed 41 = .ok (.bipush 11, 2) := by decide +kernel
theorem dX0_packed_43 : decode cX0_packed 43 = .ok (.ishl, 1) := by decide +kernel
theorem dX0_packed_44 : decode cX0_packed 44 = .ok (.ior, 1) := by decide +kernel
theorem dX0_packed_45 : decode cX0_packed 45 = .ok (.ireturn, 1) := by decide +kernel
theorem dX0_unpack_0 : decode cX0_unpack 0 = .ok (.aload_n 0, 1) := by decide +kernel
theorem dX0_unpack_1 : decode cX0_unpack 1 = .ok (.getfield 9, 3) := by decide +kernel
theorem dX0_unpack_4 : decode cX0_unpack 4 = .ok (.iload_n 1, 1) := by decide +kernel
theorem dX0_unpack_5 : decode cX0_unpack 5 = .ok (.iload_n 2, 1) := by decide +kernel
theorem dX0_unpack_6 : decode cX0_unpack 6 = .ok (.bipush 15, 2) := by decide +kernel
theorem dX0_unpack_8 : decode cX0_unpack 8 = .ok (.iand, 1) := by decide +kernel
theorem dX0_unpack_9 : decode cX0_unpack 9 = .ok (.iastore, 1) := by decide +kernel
theorem dX0_unpack_10 : decode cX0_unpack 10 = .ok (.aload_n 0, 1) := by decide +kernel
theorem dX0_unpack_11 : decode cX0_unpack 11 = .ok (.getfield 24, 3) := by decide +kernel
theorem dX0_unpack_14 : decode cX0_unpack 14 = .ok (.iload_n 1, 1) := by decide +kernel
theorem dX0_unpack_15 : decode cX0_unpack 15 = .ok (.iload_n 2, 1) := by decide +kernel
theorem dX0_unpack_16 : decode cX0_unpack 16 = .ok (.iconst 4, 1) := by decide +kernel
theorem dX0_unpack_17 : decode cX0_unpack 17 = .ok (.ishr, 1) := by decide +kernel
theorem dX0_unpack_18 : decode cX0_unpack 18 = .ok (.bipush 15, 2) := by decide +kernel
theorem dX0_unpack_20 : decode cX0_unpack 20 = .ok (.iand, 1) := by decide +kernel
theorem dX0_unpack_21 : decode cX0_unpack 21 = .ok (.iastore, 1) := by decide +kernel
theorem dX0_unpack_22 : decode cX0_unpack 22 = .ok (.aload_n 0, 1) := by decide +kernel
theorem dX0_unpack_23 : decode cX0_unpack 23 = .ok (.getfield 15, 3) := by decide +kernel
theorem dX0_unpack_26 : decode cX0_unpack 26 = .ok (.iload_n 1, 1) := by decide +kernel
theorem dX0_unpack_27 : decode cX0_unpack 27 = .ok (.iload_n 2, 1) := by decide +kernel
theorem dX0_unpack_28 : decode cX0_unpack 28 = .ok (.bipush 8, 2) := by decide +kernel
theorem dX0_unpack_30 : decode cX0_unpack 30 = .ok (.ishr, 1) := by decide +kernel
theorem dX0_unpack_31 : decode cX0_unpack 31 = .ok (.iconst 1, 1) := by decide +kernel
theorem dX0_unpack_32 : decode cX0_unpack 32 = .ok (.iand, 1) := by decide +kernel
theorem dX0_unpack_33 : decode cX0_unpack 33 = .ok (.iastore, 1) := by decide +kernel
theorem dX0_unpack_34 : decode cX0_unpack 34 = .ok (.aload_n 0, 1) := by decide +kernel
theorem dX0_unpack_35 : decode cX0_unpack 35 = .ok (.getfield 18, 3) := by decide +kernel
theorem dX0_unpack_38 : decode cX0_unpack 38 = .ok (.iload_n 1, 1) := by decide +kernel
theorem dX0_unpack_39 : decode cX0_unpack 39 = .ok (.iload_n 2, 1) := by decide +kernel
theorem dX0_unpack_40 : decode cX0_unpack 40 = .ok (.bipush 9, 2) := by decide +kernel
theorem dX0_unpack_42 : decode cX0_unpack 42 = .ok (.ishr, 1) := by decide +kernel
theorem dX0_unpack_43 : decode cX0_unpack 43 = .ok (.iconst 3, 1) := by decide +kernel
theorem dX0_unpack_44 : decode cX0_unpack 44 = .ok (.iand, 1) := by decide +kernel
theorem dX0_unpack_45 : decode cX0_unpack 45 = .ok (.iastore, 1) := by decide +kernel
theorem dX0_unpack_46 : decode cX0_unpack 46 = .ok (.aload_n 0, 1) := by decide +kernel
theorem dX0_unpack_47 : decode cX0_unpack 47 = .ok (.getfield 21, 3) := by decide +kernel
theorem dX0_unpack_50 : decode cX0_unpack 50 = .ok (.iload_n 1, 1) := by decide +kernel
theorem dX0_unpack_51 : decode cX0_unpack 51 = .ok (.iload_n 2, 1) := by decide +kernel
theorem dX0_unpack_52 : decode cX0_unpack 52 = .ok (.bipush 11, 2) := by decide +kernel
theorem dX0_unpack_54 : decode cX0_unpack 54 = .ok (.ishr, 1) := by decide +kernel
theorem dX0_unpack_55 : decode cX0_unpack 55 = .ok (.iconst 3, 1) := by decide +kernel
theorem dX0_unpack_56 : decode cX0_unpack 56 = .ok (.iand, 1) := by decide +kernel
theorem dX0_unpack_57 : decode cX0_unpack 57 = .ok (.iastore, 1) := by decide +kernel
theorem dX0_unpack_58 : decode cX0_unpack 58 = .ok (.return_, 1) := by decide +kernel
theorem dX2_init_0 : decode cX2_init 0 = .ok (.aload_n 0, 1) := by decide +kernel
theorem dX2_init_1 : decode cX2_init 1 = .ok (.invokespecial 3, 3) := by decide +kernel
theorem dX2_init_4 : decode cX2_init 4 = .ok (.aload_n 0, 1) := by decide +kernel
theorem dX2_init_5 : decode cX2_init 5 = .ok (.iconst 0, 1) := by decide +kernel
theorem dX2_init_6 : decode cX2_init 6 = .ok (.putfield 9, 3) := by decide +kernel
theorem dX2_init_9 : decode cX2_init 9 = .ok (.aload_n 0, 1) := by decide +kernel
theorem dX2_init_10 : decode cX2_init 10 = .ok (.iconst 0, 1) := by decide +kernel
theorem dX2_init_11 : decode cX2_init 11 = .ok (.putfield 15, 3) := by decide +kernel
theorem dX2_init_14 : decode cX2_init 14 = .ok (.aload_n 0, 1) := by decide +kernel
theorem dX2_init_15 : decode cX2_init 15 = .ok (.sipush 720, 3) := by decide +kernel
theorem dX2_init_18 : decode cX2_init 18 = .ok (.newarray .int, 2) := by decide +kernel
theorem dX2_init_20 : decode cX2_init 20 = .ok (.putfield 18, 3) := by decide +kernel
theorem dX2_init_23 : decode cX2_init 23 = .ok (.return_, 1) := by decide +kernel
set_option maxRecDepth 20000 in
theorem ggX2_note_X2_start : GoodIn wsX2_note wsX2_start := goodIn_r _ [7, 8, 19, 20, 21] (by decide +kernel) (by decide +kernel)
set_option maxRecDepth 20000 in
theorem gX2_note_X2_start : GoodIn wsX2_note (wsV RX2 22 RX2 yX2_start wsX2_start) := goodIn_app (goodIn_of _ (by decide +kernel)) ggX2_note_X2_start
set_option maxRecDepth 20000 in
theorem ggX2_note_X0_packed : GoodIn wsX2_note wsX0_packed := goodIn_r _ [13, 14, 15, 16, 17, 18, 22, 23, 24, 25, 26] (by decide +kernel) (by decide +kernel)
set_option maxRecDepth 20000 in
theorem gX2_note_X0_packed : GoodIn wsX2_note (wsV RX2 26 RX0 yX0_packed wsX0_packed) := goodIn_app (goodIn_of _ (by decide +kernel)) ggX2_note_X0_packed
theorem dX2_note_0 : decode cX2_note 0 = .ok (.aload_n 0, 1) := by decide +kernel
theorem dX2_note_1 : decode cX2_note 1 = .ok (.aload_n 0, 1) := by decide +kernel
theorem dX2_note_2 : decode cX2_note 2 = .ok (.getfield 9, 3) := by decide +kernel
theorem dX2_note_5 : decode cX2_note 5 = .ok (.invokevirtual 22, 3) := by decide +kernel
theorem dX2_note_8 : decode cX2_note 8 = .ok (.istore_n 2, 1) := by decide +kernel
theorem dX2_note_9 : decode cX2_note 9 = .ok (.iconst 0, 1) := by decide +kernel
theorem dX2_note_10 : decode cX2_note 10 = .ok (.istore_n 3, 1) := by decide +kernel
theorem dX2_note_11 : decode cX2_note 11 = .ok (.iload_n 3, 1) := by decide +kernel
theorem dX2_note_12 : decode cX2_note 12 = .ok (.bipush 80, 2) := by decide +kernel
theorem dX2_note_14 : decode cX2_note 14 = .ok (.if_icmp .ge 22, 3) := by decide +kernel
theorem dX2_note_17 : decode cX2_note 17 = .ok (.aload_n 0, 1) := by decide +kernel
theorem dX2_note_18 : decode cX2_note 18 = .ok (.getfield 18, 3) := by decide +kernel
theorem dX2_note_21 : decode cX2_note 21 = .ok (.iload_n 2, 1) := by decide +kernel
theorem dX2_note_22 : decode cX2_note 22 = .ok (.iload_n 3, 1) := by decide +kernel
theorem dX2_note_23 : decode cX2_note 23 = .ok (.iadd, 1) := by decide +kernel
theorem dX2_note_24 : decode cX2_note 24 = .ok (.aload_n 1, 1) := by decide +kernel
theorem dX2_note_25 : decode cX2_note 25 = .ok (.iload_n 3, 1) := by decide +kernel
theorem dX2_note_26 : decode cX2_note 26 = .ok (.invokevirtual 26, 3) := by decide +kernel
theorem dX2_note_29 : decode cX2_note 29 = .ok (.iastore, 1) := by decide +kernel
theorem dX2_note_30 : decode cX2_note 30 = .ok (.iinc 3 1, 3) := by decide +kernel
theorem dX2_note_33 : decode cX2_note 33 = .ok (.goto (-22), 3) := by decide +kernel
theorem dX2_note_36 : decode cX2_note 36 = .ok (.return_, 1) := by decide +kernel
theorem dX2_keep_0 : decode cX2_keep 0 = .ok (.aload_n 0, 1) := by decide +kernel
theorem dX2_keep_1 : decode cX2_keep 1 = .ok (.getfield 9, 3) := by decide +kernel
theorem dX2_keep_4 : decode cX2_keep 4 = .ok (.bipush 8, 2) := by decide +kernel
theorem dX2_keep_6 : decode cX2_keep 6 = .ok (.if_icmp .ge 16, 3) := by decide +kernel
theorem dX2_keep_9 : decode cX2_keep 9 = .ok (.aload_n 0, 1) := by decide +kernel
theorem dX2_keep_10 : decode cX2_keep 10 = .ok (.dup, 1) := by decide +kernel
theorem dX2_keep_11 : decode cX2_keep 11 = .ok (.getfield 9, 3) := by decide +kernel
theorem dX2_keep_14 : decode cX2_keep 14 = .ok (.iconst 1, 1) := by decide +kernel
theorem dX2_keep_15 : decode cX2_keep 15 = .ok (.iadd, 1) := by decide +kernel
theorem dX2_keep_16 : decode cX2_keep 16 = .ok (.putfield 9, 3) := by decide +kernel
theorem dX2_keep_19 : decode cX2_keep 19 = .ok (.goto 16, 3) := by decide +kernel
theorem dX2_keep_22 : decode cX2_keep 22 = .ok (.aload_n 0, 1) := by decide +kernel
theorem dX2_keep_23 : decode cX2_keep 23 = .ok (.aload_n 0, 1) := by decide +kernel
theorem dX2_keep_24 : decode cX2_keep 24 = .ok (.getfield 15, 3) := by decide +kernel
theorem dX2_keep_27 : decode cX2_keep 27 = .ok (.iconst 1, 1) := by decide +kernel
theorem dX2_keep_28 : decode cX2_keep 28 = .ok (.iadd, 1) := by decide +kernel
theorem dX2_keep_29 : decode cX2_keep 29 = .ok (.bipush 9, 2) := by decide +kernel
theorem dX2_keep_31 : decode cX2_keep 31 = .ok (.irem, 1) := by decide +kernel
theorem dX2_keep_32 : decode cX2_keep 32 = .ok (.putfield 15, 3) := by decide +kernel
theorem dX2_keep_35 : decode cX2_keep 35 = .ok (.return_, 1) := by decide +kernel
set_option maxRecDepth 20000 in
theorem ggX2_takeBack_X2_start : GoodIn wsX2_takeBack wsX2_start := goodIn_r _ [7, 8, 19, 20, 21] (by decide +kernel) (by decide +kernel)
set_option maxRecDepth 20000 in
theorem gX2_takeBack_X2_start : GoodIn wsX2_takeBack (wsV RX2 22 RX2 yX2_start wsX2_start) := goodIn_app (goodIn_of _ (by decide +kernel)) ggX2_takeBack_X2_start
set_option maxRecDepth 20000 in
theorem ggX2_takeBack_X0_unpack : GoodIn wsX2_takeBack wsX0_unpack := goodIn_r _ [13, 14, 15, 16, 17, 18, 22, 23, 24, 25, 26] (by decide +kernel) (by decide +kernel)
set_option maxRecDepth 20000 in
theorem gX2_takeBack_X0_unpack : GoodIn wsX2_takeBack (wsV RX2 31 RX0 yX0_unpack wsX0_unpack) := goodIn_app (goodIn_of _ (by decide +kernel)) ggX2_takeBack_X0_unpack
theorem dX2_takeBack_0 : decode cX2_takeBack 0 = .ok (.aload_n 0, 1) := by decide +kernel
theorem dX2_takeBack_1 : decode cX2_takeBack 1 = .ok (.getfield 9, 3) := by decide +kernel
theorem dX2_takeBack_4 : decode cX2_takeBack 4 = .ok (.ifCond .le 49, 3) := by decide +kernel
theorem dX2_takeBack_7 : decode cX2_takeBack 7 = .ok (.aload_n 0, 1) := by decide +kernel
theorem dX2_takeBack_8 : decode cX2_takeBack 8 = .ok (.dup, 1) := by decide +kernel
theorem dX2_takeBack_9 : decode cX2_takeBack 9 = .ok (.getfield 9, 3) := by decide +kernel
theorem dX2_takeBack_12 : decode cX2_takeBack 12 = .ok (.iconst 1, 1) := by decide +kernel
theorem dX2_takeBack_13 : decode cX2_takeBack 13 = .ok (.isub, 1) := by decide +kernel
theorem dX2_takeBack_14 : decode cX2_takeBack 14 = .ok (.putfield 9, 3) := by decide +kernel
theorem dX2_takeBack_17 : decode cX2_takeBack 17 = .ok (.aload_n 0, 1) := by decide +kernel
theorem dX2_takeBack_18 : decode cX2_takeBack 18 = .ok (.aload_n 0, 1) := by decide +kernel
theorem dX2_takeBack_19 : decode cX2_takeBack 19 = .ok (.getfield 9, 3) := by decide +kernel
theorem dX2_takeBack_22 : decode cX2_takeBack 22 = .ok (.invokevirtual 22, 3) := by decide +kernel
theorem dX2_takeBack_25 : decode cX2_takeBack 25 = .ok (.istore_n 2, 1) := by decide +kernel
theorem dX2_takeBack_26 : decode cX2_takeBack 26 = .ok (.iconst 0, 1) := by decide +kernel
theorem dX2_takeBack_27 : decode cX2_takeBack 27 = .ok (.istore_n 3, 1) := by decide +kernel
theorem dX2_takeBack_28 : decode cX2_takeBack 28 = .ok (.iload_n 3, 1) := by decide +kernel
theorem dX2_takeBack_29 : decode cX2_takeBack 29 = .ok (.bipush 80, 2) := by decide +kernel
theorem dX2_takeBack_31 : decode cX2_takeBack 31 = .ok (.if_icmp .ge 22, 3) := by decide +kernel
theorem dX2_takeBack_34 : decode cX2_takeBack 34 = .ok (.aload_n 1, 1) := by decide +kernel
theorem dX2_takeBack_35 : decode cX2_takeBack 35 = .ok (.iload_n 3, 1) := by decide +kernel
theorem dX2_takeBack_36 : decode cX2_takeBack 36 = .ok (.aload_n 0, 1) := by decide +kernel
theorem dX2_takeBack_37 : decode cX2_takeBack 37 = .ok (.getfield 18, 3) := by decide +kernel
theorem dX2_takeBack_40 : decode cX2_takeBack 40 = .ok (.iload_n 2, 1) := by decide +kernel
theorem dX2_takeBack_41 : decode cX2_takeBack 41 = .ok (.iload_n 3, 1) := by decide +kernel
theorem dX2_takeBack_42 : decode cX2_takeBack 42 = .ok (.iadd, 1) := by decide +kernel
theorem dX2_takeBack_43 : decode cX2_takeBack 43 = .ok (.iaload, 1) := by decide +kernel
theorem dX2_takeBack_44 : decode cX2_takeBack 44 = .ok (.invokevirtual 31, 3) := by decide +kernel
theorem dX2_takeBack_47 : decode cX2_takeBack 47 = .ok (.iinc 3 1, 3) := by decide +kernel
theorem dX2_takeBack_50 : decode cX2_takeBack 50 = .ok (.goto (-22), 3) := by decide +kernel
theorem dX2_takeBack_53 : decode cX2_takeBack 53 = .ok (.return_, 1) := by decide +kernel
theorem dX2_start_0 : decode cX2_start 0 = .ok (.aload_n 0, 1) := by decide +kernel
theorem dX2_start_1 : decode cX2_start 1 = .ok (.getfield 15, 3) := by decide +kernel
theorem dX2_start_4 : decode cX2_start 4 = .ok (.iload_n 1, 1) := by decide +kernel
theorem dX2_start_5 : decode cX2_start 5 = .ok (.iadd, 1) := by decide +kernel
theorem dX2_start_6 : decode cX2_start 6 = .ok (.bipush 9, 2) := by decide +kernel
theorem dX2_start_8 : decode cX2_start 8 = .ok (.irem, 1) := by decide +kernel
theorem dX2_start_9 : decode cX2_start 9 = .ok (.bipush 80, 2) := by decide +kernel
theorem dX2_start_11 : decode cX2_start 11 = .ok (.imul, 1) := by decide +kernel
theorem dX2_start_12 : decode cX2_start 12 = .ok (.ireturn, 1) := by decide +kernel
theorem dX3_init_0 : decode cX3_init 0 = .ok (.aload_n 0, 1) := by decide +kernel
theorem dX3_init_1 : decode cX3_init 1 = .ok (.invokespecial 3, 3) := by decide +kernel
theorem dX3_init_4 : decode cX3_init 4 = .ok (.aload_n 0, 1) := by decide +kernel
theorem dX3_init_5 : decode cX3_init 5 = .ok (.iconst 4, 1) := by decide +kernel
theorem dX3_init_6 : decode cX3_init 6 = .ok (.newarray .int, 2) := by decide +kernel
theorem dX3_init_8 : decode cX3_init 8 = .ok (.putfield 9, 3) := by decide +kernel
theorem dX3_init_11 : decode cX3_init 11 = .ok (.aload_n 0, 1) := by decide +kernel
theorem dX3_init_12 : decode cX3_init 12 = .ok (.iconst 4, 1) := by decide +kernel
theorem dX3_init_13 : decode cX3_init 13 = .ok (.newarray .int, 2) := by decide +kernel
theorem dX3_init_15 : decode cX3_init 15 = .ok (.putfield 15, 3) := by decide +kernel
theorem dX3_init_18 : decode cX3_init 18 = .ok (.aload_n 0, 1) := by decide +kernel
theorem dX3_init_19 : decode cX3_init 19 = .ok (.bipush 80, 2) := by decide +kernel
theorem dX3_init_21 : decode cX3_init 21 = .ok (.newarray .int, 2) := by decide +kernel
theorem dX3_init_23 : decode cX3_init 23 = .ok (.putfield 18, 3) := by decide +kernel
theorem dX3_init_26 : decode cX3_init 26 = .ok (.aload_n 0, 1) := by decide +kernel
theorem dX3_init_27 : decode cX3_init 27 = .ok (.bipush 16, 2) := by decide +kernel
theorem dX3_init_29 : decode cX3_init 29 = .ok (.newarray .int, 2) := by decide +kernel
theorem dX3_init_31 : decode cX3_init 31 = .ok (.putfield 21, 3) := by decide +kernel
theorem dX3_init_34 : decode cX3_init 34 = .ok (.return_, 1) := by decide +kernel
set_option maxRecDepth 20000 in
theorem ggX3_measure_J7_fill_53178 : GoodIn wsX3_measure wsJ7_fill_53178 := goodIn_r _ [10] (by decide +kernel) (by decide +kernel)
set_option maxRecDepth 20000 in
theorem gX3_measure_J7_fill_53178 : GoodIn wsX3_measure (va_wsS RX3 24 yJ7_fill_53178 wsJ7_fill_53178) := goodIn_app (goodIn_of _ (by decide +kernel)) ggX3_measure_J7_fill_53178
set_option maxRecDepth 20000 in
theorem ggX3_measure_X3_netsBeside : GoodIn wsX3_measure wsX3_netsBeside := goodIn_r _ [14, 3, 23, 24, 25, 26, 27] (by decide +kernel) (by decide +kernel)
set_option maxRecDepth 20000 in
theorem gX3_measure_X3_netsBeside : GoodIn wsX3_measure (va_wsS RX3 35 yX3_netsBeside wsX3_netsBeside) := goodIn_app (goodIn_of _ (by decide +kernel)) ggX3_measure_X3_netsBeside
set_option maxRecDepth 20000 in
theorem ggX3_measure_X3_shift : GoodIn wsX3_measure wsX3_shift := goodIn_r _ [18, 4, 1, 19, 20, 21, 22] (by decide +kernel) (by decide +kernel)
set_option maxRecDepth 20000 in
theorem gX3_measure_X3_shift : GoodIn wsX3_measure (wsV RX3 44 RX3 yX3_shift wsX3_shift) := goodIn_app (goodIn_of _ (by decide +kernel)) ggX3_measure_X3_shift
theorem dX3_measure_0 : decode cX3_measure 0 = .ok (.aload_n 0, 1) := by decide +kernel
theorem dX3_measure_1 : decode cX3_measure 1 = .ok (.getfield 15, 3) := by decide +kernel
theorem dX3_measure_4 : decode cX3_measure 4 = .ok (.iconst 0, 1) := by decide +kernel
theorem dX3_measure_5 : decode cX3_measure 5 = .ok (.invokestatic 24, 3) := by decide +kernel
theorem dX3_measure_8 : decode cX3_measure 8 = .ok (.aload_n 0, 1) := by decide +kernel
theorem dX3_measure_9 : decode cX3_measure 9 = .ok (.getfield 21, 3) := by decide +kernel
theorem dX3_measure_12 : decode cX3_measure 12 = .ok (.iconst 0, 1) := by decide +kernel
theorem dX3_measure_13 : decode cX3_measure 13 = .ok (.invokestatic 24, 3) := by decide +kernel
theorem dX3_measure_16 : decode cX3_measure 16 = .ok (.iconst 0, 1) := by decide +kernel
theorem dX3_measure_17 : decode cX3_measure 17 = .ok (.istore_n 2, 1) := by decide +kernel
theorem dX3_measure_18 : decode cX3_measure 18 = .ok (.iload_n 2, 1) := by decide +kernel
theorem dX3_measure_19 : decode cX3_measure 19 = .ok (.bipush 80, 2) := by decide +kernel
theorem dX3_measure_21 : decode cX3_measure 21 = .ok (.if_icmp .ge 92, 3) := by decide +kernel
theorem dX3_measure_24 : decode cX3_measure 24 = .ok (.iconst 1, 1) := by decide +kernel
theorem dX3_measure_25 : decode cX3_measure 25 = .ok (.aload_n 1, 1) := by decide +kernel
theorem dX3_measure_26 : decode cX3_measure 26 = .ok (.getfield 30, 3) := by decide +kernel
theorem dX3_measure_29 : decode cX3_measure 29 = .ok (.iload_n 2, 1) := by decide +kernel
theorem dX3_measure_30 : decode cX3_measure 30 = .ok (.iaload, 1) := by decide +kernel
theorem dX3_measure_31 : decode cX3_measure 31 = .ok (.ishl, 1) := by decide +kernel
theorem dX3_measure_32 : decode cX3_measure 32 = .ok (.istore_n 3, 1) := by decide +kernel
theorem dX3_measure_33 : decode cX3_measure 33 = .ok (.aload_n 0, 1) := by decide +kernel
theorem dX3_measure_34 : decode cX3_measure 34 = .ok (.getfield 18, 3) := by decide +kernel
theorem dX3_measure_37 : decode cX3_measure 37 = .ok (.iload_n 2, 1) := by decide +kernel
theorem dX3_measure_38 : decode cX3_measure 38 = .ok (.aload_n 1, 1) := by decide +kernel
theorem dX3_measure_39 : decode cX3_measure 39 = .ok (.iload_n 2, 1) := by decide +kernel
theorem dX3_measure_40 : decode cX3_measure 40 = .ok (.invokestatic 35, 3) := by decide +kernel
theorem dX3_measure_43 : decode cX3_measure 43 = .ok (.iload_n 3, 1) := by decide +kernel
theorem dX3_measure_44 : decode cX3_measure 44 = .ok (.iconst (-1), 1) := by decide +kernel
theorem dX3_measure_45 : decode cX3_measure 45 = .ok (.ixor, 1) := by decide +kernel
theorem dX3_measure_46 : decode cX3_measure 46 = .ok (.iand, 1) := by decide +kernel
theorem dX3_measure_47 : decode cX3_measure 47 = .ok (.bipush (-2), 2) := by decide +kernel
theorem dX3_measure_49 : decode cX3_measure 49 = .ok (.iand, 1) := by decide +kernel
theorem dX3_measure_50 : decode cX3_measure 50 = .ok (.iastore, 1) := by decide +kernel
theorem dX3_measure_51 : decode cX3_measure 51 = .ok (.iconst 1, 1) := by decide +kernel
theorem dX3_measure_52 : decode cX3_measure 52 = .ok (.istore 4, 2) := by decide +kernel
theorem dX3_measure_54 : decode cX3_measure 54 = .ok (.iload 4, 2) := by decide +kernel
theorem dX3_measure_56 : decode cX3_measure 56 = .ok (.iconst 4, 1) := by decide +kernel
theorem dX3_measure_57 : decode cX3_measure 57 = .ok (.if_icmp .ge 39, 3) := by decide +kernel
theorem dX3_measure_60 : decode cX3_measure 60 = .ok (.aload_n 0, 1) := by decide +kernel
theorem dX3_measure_61 : decode cX3_measure 61 = .ok (.getfield 21, 3) := by decide +kernel
theorem dX3_measure_64 : decode cX3_measure 64 = .ok (.iconst 4, 1) := by decide +kernel
theorem dX3_measure_65 : decode cX3_measure 65 = .ok (.aload_n 1, 1) := by decide +kernel
theorem dX3_measure_66 : decode cX3_measure 66 = .ok (.getfield 39, 3) := by decide +kernel
theorem dX3_measure_69 : decode cX3_measure 69 = .ok (.iload_n 2, 1) := by decide +kernel
theorem dX3_measure_70 : decode cX3_measure 70 = .ok (.iaload, 1) := by decide +kernel
theorem dX3_measure_71 : decode cX3_measure 71 = .ok (.imul, 1) := by decide +kernel
theorem dX3_measure_72 : decode cX3_measure 72 = .ok (.iload 4, 2) := by decide +kernel
theorem dX3_measure_74 : decode cX3_measure 74 = .ok (.iadd, 1) := by decide +kernel
theorem dX3_measure_75 : decode cX3_measure 75 = .ok (.dup2, 1) := by decide +kernel
theorem dX3_measure_76 : decode cX3_measure 76 = .ok (.iaload, 1) := by decide +kernel
theorem dX3_measure_77 : decode cX3_measure 77 = .ok (.aload_n 0, 1) := by decide +kernel
theorem dX3_measure_78 : decode cX3_measure 78 = .ok (.getfield 18, 3) := by decide +kernel
theorem dX3_measure_81 : decode cX3_measure 81 = .ok (.iload_n 2, 1) := by decide +kernel
theorem dX3_measure_82 : decode cX3_measure 82 = .ok (.iaload, 1) := by decide +kernel
theorem dX3_measure_83 : decode cX3_measure 83 = .ok (.iload 4, 2) := by decide +kernel
theorem dX3_measure_85 : decode cX3_measure 85 = .ok (.ishr, 1) := by decide +kernel
theorem dX3_measure_86 : decode cX3_measure 86 = .ok (.iconst 1, 1) := by decide +kernel
theorem dX3_measure_87 : decode cX3_measure 87 = .ok (.iand, 1) := by decide +kernel
theorem dX3_measure_88 : decode cX3_measure 88 = .ok (.iadd, 1) := by decide +kernel
theorem dX3_measure_89 : decode cX3_measure 89 = .ok (.iastore, 1) := by decide +kernel
theorem dX3_measure_90 : decode cX3_measure 90 = .ok (.iinc 4 1, 3) := by decide +kernel
theorem dX3_measure_93 : decode cX3_measure 93 = .ok (.goto (-39), 3) := by decide +kernel
theorem dX3_measure_96 : decode cX3_measure 96 = .ok (.aload_n 0, 1) := by decide +kernel
theorem dX3_measure_97 : decode cX3_measure 97 = .ok (.iload_n 2, 1) := by decide +kernel
theorem dX3_measure_98 : decode cX3_measure 98 = .ok (.aload_n 1, 1) := by decide +kernel
theorem dX3_measure_99 : decode cX3_measure 99 = .ok (.getfield 42, 3) := by decide +kernel
theorem dX3_measure_102 : decode cX3_measure 102 = .ok (.iload_n 2, 1) := by decide +kernel
theorem dX3_measure_103 : decode cX3_measure 103 = .ok (.iaload, 1) := by decide +kernel
theorem dX3_measure_104 : decode cX3_measure 104 = .ok (.invokevirtual 44, 3) := by decide +kernel
theorem dX3_measure_107 : decode cX3_measure 107 = .ok (.iinc 2 1, 3) := by decide +kernel
theorem dX3_measure_110 : decode cX3_measure 110 = .ok (.goto (-92), 3) := by decide +kernel
theorem dX3_measure_113 : decode cX3_measure 113 = .ok (.return_, 1) := by decide +kernel
theorem dX3_netsBeside_0 : decode cX3_netsBeside 0 = .ok (.iload_n 1, 1) := by decide +kernel
theorem dX3_netsBeside_1 : decode cX3_netsBeside 1 = .ok (.bipush 10, 2) := by decide +kernel
theorem dX3_netsBeside_3 : decode cX3_netsBeside 3 = .ok (.irem, 1) := by decide +kernel
theorem dX3_netsBeside_4 : decode cX3_netsBeside 4 = .ok (.istore_n 2, 1) := by decide +kernel
theorem dX3_netsBeside_5 : decode cX3_netsBeside 5 = .ok (.iconst 0, 1) := by decide +kernel
theorem dX3_netsBeside_6 : decode cX3_netsBeside 6 = .ok (.istore_n 3, 1) := by decide +kernel
theorem dX3_netsBeside_7 : decode cX3_netsBeside 7 = .ok (.iload_n 1, 1) := by decide +kernel
theorem dX3_netsBeside_8 : decode cX3_netsBeside 8 = .ok (.bipush 10, 2) := by decide +kernel
theorem dX3_netsBeside_10 : decode cX3_netsBeside 10 = .ok (.if_icmp .lt 17, 3) := by decide +kernel
theorem dX3_netsBeside_13 : decode cX3_netsBeside 13 = .ok (.iload_n 3, 1) := by decide +kernel
theorem dX3_netsBeside_14 : decode cX3_netsBeside 14 = .ok (.iconst 1, 1) := by decide +kernel
theorem dX3_netsBeside_15 : decode cX3_netsBeside 15 = .ok (.aload_n 0, 1) := by decide +kernel
theorem dX3_netsBeside_16 : decode cX3_netsBeside 16 = .ok (.getfield 30, 3) := by decide +kernel
theorem dX3_netsBeside_19 : decode cX3_netsBeside 19 = .ok (.iload_n 1, 1) := by decide +kernel
theorem dX3_netsBeside_20 : decode cX3_netsBeside 20 = .ok (.bipush 10, 2) := by decide +kernel
theorem dX3_netsBeside_22 : decode cX3_netsBeside 22 = .ok (.isub, 1) := by decide +kernel
theorem dX3_netsBeside_23 : decode cX3_netsBeside 23 = .ok (.iaload, 1) := by decide +kernel
theorem dX3_netsBeside_24 : decode cX3_netsBeside 24 = .ok (.ishl, 1) := by decide +kernel
theorem dX3_netsBeside_25 : decode cX3_netsBeside 25 = .ok (.ior, 1) := by decide +kernel
theorem dX3_netsBeside_26 : decode cX3_netsBeside 26 = .ok (.istore_n 3, 1) := by decide +kernel
theorem dX3_netsBeside_27 : decode cX3_netsBeside 27 = .ok (.iload_n 1, 1) := by decide +kernel
theorem dX3_netsBeside_28 : decode cX3_netsBeside 28 = .ok (.bipush 10, 2) := by decide +kernel
theorem dX3_netsBeside_30 : decode cX3_netsBeside 30 = .ok (.iadd, 1) := by decide +kernel
theorem dX3_netsBeside_31 : decode cX3_netsBeside 31 = .ok (.bipush 80, 2) := by decide +kernel
theorem dX3_netsBeside_33 : decode cX3_netsBeside 33 = .ok (.if_icmp .ge 17, 3) := by decide +kernel
theorem dX3_netsBeside_36 : decode cX3_netsBeside 36 = .ok (.iload_n 3, 1) := by decide +kernel
theorem dX3_netsBeside_37 : decode cX3_netsBeside 37 = .ok (.iconst 1, 1) := by decide +kernel
theorem dX3_netsBeside_38 : decode cX3_netsBeside 38 = .ok (.aload_n 0, 1) := by decide +kernel
theorem dX3_netsBeside_39 : decode cX3_netsBeside 39 = .ok (.getfield 30, 3) := by decide +kernel
theorem dX3_netsBeside_42 : decode cX3_netsBeside 42 = .ok (.iload_n 1, 1) := by decide +kernel
theorem dX3_netsBeside_43 : decode cX3_netsBeside 43 = .ok (.bipush 10, 2) := by decide +kernel
theorem dX3_netsBeside_45 : decode cX3_netsBeside 45 = .ok (.iadd, 1) := by decide +kernel
theorem dX3_netsBeside_46 : decode cX3_netsBeside 46 = .ok (.iaload, 1) := by decide +kernel
theorem dX3_netsBeside_47 : decode cX3_netsBeside 47 = .ok (.ishl, 1) := by decide +kernel
theorem dX3_netsBeside_48 : decode cX3_netsBeside 48 = .ok (.ior, 1) := by decide +kernel
theorem dX3_netsBeside_49 : decode cX3_netsBeside 49 = .ok (.istore_n 3, 1) := by decide +kernel
theorem dX3_netsBeside_50 : decode cX3_netsBeside 50 = .ok (.iload_n 2, 1) := by decide +kernel
theorem dX3_netsBeside_51 : decode cX3_netsBeside 51 = .ok (.ifCond .le 16, 3) := by decide +kernel
theorem dX3_netsBeside_54 : decode cX3_netsBeside 54 = .ok (.iload_n 3, 1) := by decide +kernel
theorem dX3_netsBeside_55 : decode cX3_netsBeside 55 = .ok (.iconst 1, 1) := by decide +kernel
theorem dX3_netsBeside_56 : decode cX3_netsBeside 56 = .ok (.aload_n 0, 1) := by decide +kernel
theorem dX3_netsBeside_57 : decode cX3_netsBeside 57 = .ok (.getfield 30, 3) := by decide +kernel
theorem dX3_netsBeside_60 : decode cX3_netsBeside 60 = .ok (.iload_n 1, 1) := by decide +kernel
theorem dX3_netsBeside_61 : decode cX3_netsBeside 61 = .ok (.iconst 1, 1) := by decide +kernel
theorem dX3_netsBeside_62 : decode cX3_netsBeside 62 = .ok (.isub, 1) := by decide +kernel
theorem dX3_netsBeside_63 : decode cX3_netsBeside 63 = .ok (.iaload, 1) := by decide +kernel
theorem dX3_netsBeside_64 : decode cX3_netsBeside 64 = .ok (.ishl, 1) := by decide +kernel
theorem dX3_netsBeside_65 : decode cX3_netsBeside 65 = .ok (.ior, 1) := by decide +kernel
theorem dX3_netsBeside_66 : decode cX3_netsBeside 66 = .ok (.istore_n 3, 1) := by decide +kernel
theorem dX3_netsBeside_67 : decode cX3_netsBeside 67 = .ok (.iload_n 2, 1) := by decide +kernel
theorem dX3_netsBeside_68 : decode cX3_netsBeside 68 = .ok (.iconst 1, 1) := by decide +kernel
theorem dX3_netsBeside_69 : decode cX3_netsBeside 69 = .ok (.iadd, 1) := by decide +kernel
theorem dX3_netsBeside_70 : decode cX3_netsBeside 70 = .ok (.bipush 10, 2) := by decide +kernel
theorem dX3_netsBeside_72 : decode cX3_netsBeside 72 = .ok (.if_icmp .ge 16, 3) := by decide +kernel
theorem dX3_netsBeside_75 : decode cX3_netsBeside 75 = .ok (.iload_n 3, 1) := by decide +kernel
theorem dX3_netsBeside_76 : decode cX3_netsBeside 76 = .ok (.iconst 1, 1) := by decide +kernel
theorem dX3_netsBeside_77 : decode cX3_netsBeside 77 = .ok (.aload_n 0, 1) := by decide +kernel
theorem dX3_netsBeside_78 : decode cX3_netsBeside 78 = .ok (.getfield 30, 3) := by decide +kernel
theorem dX3_netsBeside_81 : decode cX3_netsBeside 81 = .ok (.iload_n 1, 1) := by decide +kernel
theorem dX3_netsBeside_82 : decode cX3_netsBeside 82 = .ok (.iconst 1, 1) := by decide +kernel
theorem dX3_netsBeside_83 : decode cX3_netsBeside 83 = .ok (.iadd, 1) := by decide +kernel
theorem dX3_netsBeside_84 : decode cX3_netsBeside 84 = .ok (.iaload, 1) := by decide +kernel
theorem dX3_netsBeside_85 : decode cX3_netsBeside 85 = .ok (.ishl, 1) := by decide +kernel
theorem dX3_netsBeside_86 : decode cX3_netsBeside 86 = .ok (.ior, 1) := by decide +kernel
theorem dX3_netsBeside_87 : decode cX3_netsBeside 87 = .ok (.istore_n 3, 1) := by decide +kernel
theorem dX3_netsBeside_88 : decode cX3_netsBeside 88 = .ok (.iload_n 3, 1) := by decide +kernel
theorem dX3_netsBeside_89 : decode cX3_netsBeside 89 = .ok (.ireturn, 1) := by decide +kernel
theorem dX3_shift_0 : decode cX3_shift 0 = .ok (.aload_n 0, 1) := by decide +kernel
theorem dX3_shift_1 : decode cX3_shift 1 = .ok (.getfield 18, 3) := by decide +kernel
theorem dX3_shift_4 : decode cX3_shift 4 = .ok (.iload_n 1, 1) := by decide +kernel
theorem dX3_shift_5 : decode cX3_shift 5 = .ok (.iaload, 1) := by decide +kernel
theorem dX3_shift_6 : decode cX3_shift 6 = .ok (.ifCond .eq 37, 3) := by decide +kernel
theorem dX3_shift_9 : decode cX3_shift 9 = .ok (.iconst 1, 1) := by decide +kernel
theorem dX3_shift_10 : decode cX3_shift 10 = .ok (.istore_n 3, 1) := by decide +kernel
theorem dX3_shift_11 : decode cX3_shift 11 = .ok (.iload_n 3, 1) := by decide +kernel
theorem dX3_shift_12 : decode cX3_shift 12 = .ok (.iconst 4, 1) := by decide +kernel
theorem dX3_shift_13 : decode cX3_shift 13 = .ok (.if_icmp .ge 30, 3) := by decide +kernel
theorem dX3_shift_16 : decode cX3_shift 16 = .ok (.aload_n 0, 1) := by decide +kernel
theorem dX3_shift_17 : decode cX3_shift 17 = .ok (.getfield 15, 3) := by decide +kernel
theorem dX3_shift_20 : decode cX3_shift 20 = .ok (.iload_n 3, 1) := by decide +kernel
theorem dX3_shift_21 : decode cX3_shift 21 = .ok (.dup2, 1) := by decide +kernel
theorem dX3_shift_22 : decode cX3_shift 22 = .ok (.iaload, 1) := by decide +kernel
theorem dX3_shift_23 : decode cX3_shift 23 = .ok (.iload_n 2, 1) := by decide +kernel
theorem dX3_shift_24 : decode cX3_shift 24 = .ok (.aload_n 0, 1) := by decide +kernel
theorem dX3_shift_25 : decode cX3_shift 25 = .ok (.getfield 18, 3) := by decide +kernel
theorem dX3_shift_28 : decode cX3_shift 28 = .ok (.iload_n 1, 1) := by decide +kernel
theorem dX3_shift_29 : decode cX3_shift 29 = .ok (.iaload, 1) := by decide +kernel
theorem dX3_shift_30 : decode cX3_shift 30 = .ok (.iload_n 3, 1) := by decide +kernel
theorem dX3_shift_31 : decode cX3_shift 31 = .ok (.ishr, 1) := by decide +kernel
theorem dX3_shift_32 : decode cX3_shift 32 = .ok (.iconst 1, 1) := by decide +kernel
theorem dX3_shift_33 : decode cX3_shift 33 = .ok (.iand, 1) := by decide +kernel
theorem dX3_shift_34 : decode cX3_shift 34 = .ok (.imul, 1) := by decide +kernel
theorem dX3_shift_35 : decode cX3_shift 35 = .ok (.iadd, 1) := by decide +kernel
theorem dX3_shift_36 : decode cX3_shift 36 = .ok (.iastore, 1) := by decide +kernel
theorem dX3_shift_37 : decode cX3_shift 37 = .ok (.iinc 3 1, 3) := by decide +kernel
theorem dX3_shift_40 : decode cX3_shift 40 = .ok (.goto (-29), 3) := by decide +kernel
theorem dX3_shift_43 : decode cX3_shift 43 = .ok (.return_, 1) := by decide +kernel
theorem dX3_gain_0 : decode cX3_gain 0 = .ok (.iload_n 2, 1) := by decide +kernel
theorem dX3_gain_1 : decode cX3_gain 1 = .ok (.ifCond .ne 16, 3) := by decide +kernel
theorem dX3_gain_4 : decode cX3_gain 4 = .ok (.aload_n 0, 1) := by decide +kernel
theorem dX3_gain_5 : decode cX3_gain 5 = .ok (.getfield 18, 3) := by decide +kernel
theorem dX3_gain_8 : decode cX3_gain 8 = .ok (.iload_n 1, 1) := by decide +kernel
theorem dX3_gain_9 : decode cX3_gain 9 = .ok (.iaload, 1) := by decide +kernel
theorem dX3_gain_10 : decode cX3_gain 10 = .ok (.iload_n 3, 1) := by decide +kernel
theorem dX3_gain_11 : decode cX3_gain 11 = .ok (.ishr, 1) := by decide +kernel
theorem dX3_gain_12 : decode cX3_gain 12 = .ok (.iconst 1, 1) := by decide +kernel
theorem dX3_gain_13 : decode cX3_gain 13 = .ok (.iand, 1) := by decide +kernel
theorem dX3_gain_14 : decode cX3_gain 14 = .ok (.goto 13, 3) := by decide +kernel
theorem dX3_gain_17 : decode cX3_gain 17 = .ok (.aload_n 0, 1) := by decide +kernel
theorem dX3_gain_18 : decode cX3_gain 18 = .ok (.getfield 21, 3) := by decide +kernel
theorem dX3_gain_21 : decode cX3_gain 21 = .ok (.iconst 4, 1) := by decide +kernel
theorem dX3_gain_22 : decode cX3_gain 22 = .ok (.iload_n 2, 1) := by decide +kernel
theorem dX3_gain_23 : decode cX3_gain 23 = .ok (.imul, 1) := by decide +kernel
theorem dX3_gain_24 : decode cX3_gain 24 = .ok (.iload_n 3, 1) := by decide +kernel
theorem dX3_gain_25 : decode cX3_gain 25 = .ok (.iadd, 1) := by decide +kernel
theorem dX3_gain_26 : decode cX3_gain 26 = .ok (.iaload, 1) := by decide +kernel
theorem dX3_gain_27 : decode cX3_gain 27 = .ok (.ireturn, 1) := by decide +kernel
set_option maxRecDepth 20000 in
theorem ggX3_gainOfAll_X3_gain : GoodIn wsX3_gainOfAll wsX3_gain := goodIn_r _ [5, 6, 7, 8, 9, 10, 11] (by decide +kernel) (by decide +kernel)
set_option maxRecDepth 20000 in
theorem gX3_gainOfAll_X3_gain : GoodIn wsX3_gainOfAll (wsV RX3 48 RX3 yX3_gain wsX3_gain) := goodIn_app (goodIn_of _ (by decide +kernel)) ggX3_gainOfAll_X3_gain
theorem dX3_gainOfAll_0 : decode cX3_gainOfAll 0 = .ok (.iconst 0, 1) := by decide +kernel
theorem dX3_gainOfAll_1 : decode cX3_gainOfAll 1 = .ok (.istore_n 3, 1) := by decide +kernel
theorem dX3_gainOfAll_2 : decode cX3_gainOfAll 2 = .ok (.iconst 1, 1) := by decide +kernel
theorem dX3_gainOfAll_3 : decode cX3_gainOfAll 3 = .ok (.istore 4, 2) := by decide +kernel
theorem dX3_gainOfAll_5 : decode cX3_gainOfAll 5 = .ok (.iload 4, 2) := by decide +kernel
theorem dX3_gainOfAll_7 : decode cX3_gainOfAll 7 = .ok (.iconst 4, 1) := by decide +kernel
theorem dX3_gainOfAll_8 : decode cX3_gainOfAll 8 = .ok (.if_icmp .ge 20, 3) := by decide +kernel
theorem dX3_gainOfAll_11 : decode cX3_gainOfAll 11 = .ok (.iload_n 3, 1) := by decide +kernel
theorem dX3_gainOfAll_12 : decode cX3_gainOfAll 12 = .ok (.aload_n 0, 1) := by decide +kernel
theorem dX3_gainOfAll_13 : decode cX3_gainOfAll 13 = .ok (.iload_n 1, 1) := by decide +kernel
theorem dX3_gainOfAll_14 : decode cX3_gainOfAll 14 = .ok (.iload_n 2, 1) := by decide +kernel
theorem dX3_gainOfAll_15 : decode cX3_gainOfAll 15 = .ok (.iload 4, 2) := by decide +kernel
theorem dX3_gainOfAll_17 : decode cX3_gainOfAll 17 = .ok (.invokevirtual 48, 3) := by decide +kernel
theorem dX3_gainOfAll_20 : decode cX3_gainOfAll 20 = .ok (.iadd, 1) := by decide +kernel
theorem dX3_gainOfAll_21 : decode cX3_gainOfAll 21 = .ok (.istore_n 3, 1) := by decide +kernel
theorem dX3_gainOfAll_22 : decode cX3_gainOfAll 22 = .ok (.iinc 4 1, 3) := by decide +kernel
theorem dX3_gainOfAll_25 : decode cX3_gainOfAll 25 = .ok (.goto (-20), 3) := by decide +kernel
theorem dX3_gainOfAll_28 : decode cX3_gainOfAll 28 = .ok (.iload_n 3, 1) := by decide +kernel
theorem dX3_gainOfAll_29 : decode cX3_gainOfAll 29 = .ok (.ireturn, 1) := by decide +kernel
set_option maxRecDepth 20000 in
theorem ggX3_bear_X3_gain : GoodIn wsX3_bear wsX3_gain := goodIn_r _ [7, 8, 9, 10, 11, 12, 13] (by decide +kernel) (by decide +kernel)
set_option maxRecDepth 20000 in
theorem gX3_bear_X3_gain : GoodIn wsX3_bear (wsV RX3 48 RX3 yX3_gain wsX3_gain) := goodIn_app (goodIn_of _ (by decide +kernel)) ggX3_bear_X3_gain
theorem dX3_bear_0 : decode cX3_bear 0 = .ok (.iconst 1, 1) := by decide +kernel
theorem dX3_bear_1 : decode cX3_bear 1 = .ok (.istore_n 3, 1) := by decide +kernel
theorem dX3_bear_2 : decode cX3_bear 2 = .ok (.iload_n 3, 1) := by decide +kernel
theorem dX3_bear_3 : decode cX3_bear 3 = .ok (.iconst 4, 1) := by decide +kernel
theorem dX3_bear_4 : decode cX3_bear 4 = .ok (.if_icmp .ge 43, 3) := by decide +kernel
theorem dX3_bear_7 : decode cX3_bear 7 = .ok (.aload_n 0, 1) := by decide +kernel
theorem dX3_bear_8 : decode cX3_bear 8 = .ok (.iload_n 1, 1) := by decide +kernel
theorem dX3_bear_9 : decode cX3_bear 9 = .ok (.iload_n 2, 1) := by decide +kernel
theorem dX3_bear_10 : decode cX3_bear 10 = .ok (.iload_n 3, 1) := by decide +kernel
theorem dX3_bear_11 : decode cX3_bear 11 = .ok (.invokevirtual 48, 3) := by decide +kernel
theorem dX3_bear_14 : decode cX3_bear 14 = .ok (.istore 4, 2) := by decide +kernel
theorem dX3_bear_16 : decode cX3_bear 16 = .ok (.iload 4, 2) := by decide +kernel
theorem dX3_bear_18 : decode cX3_bear 18 = .ok (.ifCond .le 23, 3) := by decide +kernel
theorem dX3_bear_21 : decode cX3_bear 21 = .ok (.aload_n 0, 1) := by decide +kernel
theorem dX3_bear_22 : decode cX3_bear 22 = .ok (.getfield 15, 3) := by decide +kernel
theorem dX3_bear_25 : decode cX3_bear 25 = .ok (.iload_n 3, 1) := by decide +kernel
theorem dX3_bear_26 : decode cX3_bear 26 = .ok (.iaload, 1) := by decide +kernel
theorem dX3_bear_27 : decode cX3_bear 27 = .ok (.iload 4, 2) := by decide +kernel
theorem dX3_bear_29 : decode cX3_bear 29 = .ok (.iadd, 1) := by decide +kernel
theorem dX3_bear_30 : decode cX3_bear 30 = .ok (.aload_n 0, 1) := by decide +kernel
theorem dX3_bear_31 : decode cX3_bear 31 = .ok (.getfield 9, 3) := by decide +kernel
theorem dX3_bear_34 : decode cX3_bear 34 = .ok (.iload_n 3, 1) := by decide +kernel
theorem dX3_bear_35 : decode cX3_bear 35 = .ok (.iaload, 1) := by decide +kernel
theorem dX3_bear_36 : decode cX3_bear 36 = .ok (.if_icmp .le 5, 3) := by decide +kernel
theorem dX3_bear_39 : decode cX3_bear 39 = .ok (.iconst 0, 1) := by decide +kernel
theorem dX3_bear_40 : decode cX3_bear 40 = .ok (.ireturn, 1) := by decide +kernel
theorem dX3_bear_41 : decode cX3_bear 41 = .ok (.iinc 3 1, 3) := by decide +kernel
theorem dX3_bear_44 : decode cX3_bear 44 = .ok (.goto (-42), 3) := by decide +kernel
theorem dX3_bear_47 : decode cX3_bear 47 = .ok (.iconst 1, 1) := by decide +kernel
theorem dX3_bear_48 : decode cX3_bear 48 = .ok (.ireturn, 1) := by decide +kernel
theorem dX4_init_0 : decode cX4_init 0 = .ok (.aload_n 0, 1) := by decide +kernel
theorem dX4_init_1 : decode cX4_init 1 = .ok (.invokespecial 3, 3) := by decide +kernel
theorem dX4_init_4 : decode cX4_init 4 = .ok (.aload_n 0, 1) := by decide +kernel
theorem dX4_init_5 : decode cX4_init 5 = .ok (.iconst 0, 1) := by decide +kernel
theorem dX4_init_6 : decode cX4_init 6 = .ok (.putfield 9, 3) := by decide +kernel
theorem dX4_init_9 : decode cX4_init 9 = .ok (.aload_n 0, 1) := by decide +kernel
theorem dX4_init_10 : decode cX4_init 10 = .ok (.bipush 120, 2) := by decide +kernel
theorem dX4_init_12 : decode cX4_init 12 = .ok (.newarray .int, 2) := by decide +kernel
theorem dX4_init_14 : decode cX4_init 14 = .ok (.putfield 15, 3) := by decide +kernel
theorem dX4_init_17 : decode cX4_init 17 = .ok (.return_, 1) := by decide +kernel
theorem dX4_append_0 : decode cX4_append 0 = .ok (.aload_n 0, 1) := by decide +kernel
theorem dX4_append_1 : decode cX4_append 1 = .ok (.getfield 9, 3) := by decide +kernel
theorem dX4_append_4 : decode cX4_append 4 = .ok (.bipush 120, 2) := by decide +kernel
theorem dX4_append_6 : decode cX4_append 6 = .ok (.if_icmp .ge 23, 3) := by decide +kernel
theorem dX4_append_9 : decode cX4_append 9 = .ok (.aload_n 0, 1) := by decide +kernel
theorem dX4_append_10 : decode cX4_append 10 = .ok (.getfield 15, 3) := by decide +kernel
theorem dX4_append_13 : decode cX4_append 13 = .ok (.aload_n 0, 1) := by decide +kernel
theorem dX4_append_14 : decode cX4_append 14 = .ok (.getfield 9, 3) := by decide +kernel
theorem dX4_append_17 : decode cX4_append 17 = .ok (.iload_n 1, 1) := by decide +kernel
theorem dX4_append_18 : decode cX4_append 18 = .ok (.iastore, 1) := by decide +kernel
theorem dX4_append_19 : decode cX4_append 19 = .ok (.aload_n 0, 1) := by decide +kernel
theorem dX4_append_20 : decode cX4_append 20 = .ok (.dup, 1) := by decide +kernel
theorem dX4_append_21 : decode cX4_append 21 = .ok (.getfield 9, 3) := by decide +kernel
theorem dX4_append_24 : decode cX4_append 24 = .ok (.iconst 1, 1) := by decide +kernel
theorem dX4_append_25 : decode cX4_append 25 = .ok (.iadd, 1) := by decide +kernel
theorem dX4_append_26 : decode cX4_append 26 = .ok (.putfield 9, 3) := by decide +kernel
theorem dX4_append_29 : decode cX4_append 29 = .ok (.return_, 1) := by decide +kernel
set_option maxRecDepth 20000 in
theorem ggX4_fault_X4_isSign : GoodIn wsX4_fault wsX4_isSign := goodIn_r _ [6] (by decide +kernel) (by decide +kernel)
set_option maxRecDepth 20000 in
theorem gX4_fault_X4_isSign : GoodIn wsX4_fault (va_wsS RX4 19 yX4_isSign wsX4_isSign) := goodIn_app (goodIn_of _ (by decide +kernel)) ggX4_fault_X4_isSign
theorem dX4_fault_0 : decode cX4_fault 0 = .ok (.iconst 0, 1) := by decide +kernel
theorem dX4_fault_1 : decode cX4_fault 1 = .ok (.istore_n 1, 1) := by decide +kernel
theorem dX4_fault_2 : decode cX4_fault 2 = .ok (.iconst 0, 1) := by decide +kernel
theorem dX4_fault_3 : decode cX4_fault 3 = .ok (.istore_n 2, 1) := by decide +kernel
theorem dX4_fault_4 : decode cX4_fault 4 = .ok (.iconst 0, 1) := by decide +kernel
theorem dX4_fault_5 : decode cX4_fault 5 = .ok (.istore_n 3, 1) := by decide +kernel
theorem dX4_fault_6 : decode cX4_fault 6 = .ok (.iconst 0, 1) := by decide +kernel
theorem dX4_fault_7 : decode cX4_fault 7 = .ok (.istore 4, 2) := by decide +kernel
theorem dX4_fault_9 : decode cX4_fault 9 = .ok (.iload 4, 2) := by decide +kernel
theorem dX4_fault_11 : decode cX4_fault 11 = .ok (.aload_n 0, 1) := by decide +kernel
theorem dX4_fault_12 : decode cX4_fault 12 = .ok (.getfield 9, 3) := by decide +kernel
theorem dX4_fault_15 : decode cX4_fault 15 = .ok (.if_icmp .ge 98, 3) := by decide +kernel
theorem dX4_fault_18 : decode cX4_fault 18 = .ok (.aload_n 0, 1) := by decide +kernel
theorem dX4_fault_19 : decode cX4_fault 19 = .ok (.getfield 15, 3) := by decide +kernel
theorem dX4_fault_22 : decode cX4_fault 22 = .ok (.iload 4, 2) := by decide +kernel
theorem dX4_fault_24 : decode cX4_fault 24 = .ok (.iaload, 1) := by decide +kernel
theorem dX4_fault_25 : decode cX4_fault 25 = .ok (.istore 5, 2) := by decide +kernel
theorem dX4_fault_27 : decode cX4_fault 27 = .ok (.iload 5, 2) := by decide +kernel
theorem dX4_fault_29 : decode cX4_fault 29 = .ok (.bipush 32, 2) := by decide +kernel
theorem dX4_fault_31 : decode cX4_fault 31 = .ok (.if_icmp .ne 6, 3) := by decide +kernel
theorem dX4_fault_34 : decode cX4_fault 34 = .ok (.goto 73, 3) := by decide +kernel
theorem dX4_fault_37 : decode cX4_fault 37 = .ok (.iload_n 1, 1) := by decide +kernel
theorem dX4_fault_38 : decode cX4_fault 38 = .ok (.ifCond .ne 27, 3) := by decide +kernel
theorem dX4_fault_41 : decode cX4_fault 41 = .ok (.iload 5, 2) := by decide +kernel
theorem dX4_fault_43 : decode cX4_fault 43 = .ok (.bipush 48, 2) := by decide +kernel
theorem dX4_fault_45 : decode cX4_fault 45 = .ok (.if_icmp .lt 10, 3) := by decide +kernel
theorem dX4_fault_48 : decode cX4_fault 48 = .ok (.iload 5, 2) := by decide +kernel
theorem dX4_fault_50 : decode cX4_fault 50 = .ok (.bipush 55, 2) := by decide +kernel
theorem dX4_fault_52 : decode cX4_fault 52 = .ok (.if_icmp .le 6, 3) := by decide +kernel
theorem dX4_fault_55 : decode cX4_fault 55 = .ok (.iload 4, 2) := by decide +kernel
theorem dX4_fault_57 : decode cX4_fault 57 = .ok (.ireturn, 1) := by decide +kernel
theorem dX4_fault_58 : decode cX4_fault 58 = .ok (.iconst 1, 1) := by decide +kernel
theorem dX4_fault_59 : decode cX4_fault 59 = .ok (.istore_n 1, 1) := by decide +kernel
theorem dX4_fault_60 : decode cX4_fault 60 = .ok (.iconst 0, 1) := by decide +kernel
theorem dX4_fault_61 : decode cX4_fault 61 = .ok (.istore_n 3, 1) := by decide +kernel
theorem dX4_fault_62 : decode cX4_fault 62 = .ok (.goto 45, 3) := by decide +kernel
theorem dX4_fault_65 : decode cX4_fault 65 = .ok (.iload 5, 2) := by decide +kernel
theorem dX4_fault_67 : decode cX4_fault 67 = .ok (.bipush 59, 2) := by decide +kernel
theorem dX4_fault_69 : decode cX4_fault 69 = .ok (.if_icmp .ne 15, 3) := by decide +kernel
theorem dX4_fault_72 : decode cX4_fault 72 = .ok (.iload_n 3, 1) := by decide +kernel
theorem dX4_fault_73 : decode cX4_fault 73 = .ok (.ifCond .le 11, 3) := by decide +kernel
theorem dX4_fault_76 : decode cX4_fault 76 = .ok (.iconst 0, 1) := by decide +kernel
theorem dX4_fault_77 : decode cX4_fault 77 = .ok (.istore_n 1, 1) := by decide +kernel
theorem dX4_fault_78 : decode cX4_fault 78 = .ok (.iinc 2 1, 3) := by decide +kernel
theorem dX4_fault_81 : decode cX4_fault 81 = .ok (.goto 26, 3) := by decide +kernel
theorem dX4_fault_84 : decode cX4_fault 84 = .ok (.iload 5, 2) := by decide +kernel
theorem dX4_fault_86 : decode cX4_fault 86 = .ok (.invokestatic 19, 3) := by decide +kernel
theorem dX4_fault_89 : decode cX4_fault 89 = .ok (.ifCond .eq 15, 3) := by decide +kernel
theorem dX4_fault_92 : decode cX4_fault 92 = .ok (.iload_n 3, 1) := by decide +kernel
theorem dX4_fault_93 : decode cX4_fault 93 = .ok (.bipush 10, 2) := by decide +kernel
theorem dX4_fault_95 : decode cX4_fault 95 = .ok (.if_icmp .ge 9, 3) := by decide +kernel
theorem dX4_fault_98 : decode cX4_fault 98 = .ok (.iinc 3 1, 3) := by decide +kernel
theorem dX4_fault_101 : decode cX4_fault 101 = .ok (.goto 6, 3) := by decide +kernel
theorem dX4_fault_104 : decode cX4_fault 104 = .ok (.iload 4, 2) := by decide +kernel
theorem dX4_fault_106 : decode cX4_fault 106 = .ok (.ireturn, 1) := by decide +kernel
theorem dX4_fault_107 : decode cX4_fault 107 = .ok (.iinc 4 1, 3) := by decide +kernel
theorem dX4_fault_110 : decode cX4_fault 110 = .ok (.goto (-101), 3) := by decide +kernel
theorem dX4_fault_113 : decode cX4_fault 113 = .ok (.iload_n 1, 1) := by decide +kernel
theorem dX4_fault_114 : decode cX4_fault 114 = .ok (.ifCond .ne 7, 3) := by decide +kernel
theorem dX4_fault_117 : decode cX4_fault 117 = .ok (.iload_n 2, 1) := by decide +kernel
theorem dX4_fault_118 : decode cX4_fault 118 = .ok (.ifCond .ne 10, 3) := by decide +kernel
theorem dX4_fault_121 : decode cX4_fault 121 = .ok (.aload_n 0, 1) := by decide +kernel
theorem dX4_fault_122 : decode cX4_fault 122 = .ok (.getfield 9, 3) := by decide +kernel
theorem dX4_fault_125 : decode cX4_fault 125 = .ok (.goto 4, 3) := by decide +kernel
theorem dX4_fault_128 : decode cX4_fault 128 = .ok (.iconst (-1), 1) := by decide +kernel
theorem dX4_fault_129 : decode cX4_fault 129 = .ok (.ireturn, 1) := by decide +kernel
theorem dX4_isSign_0 : decode cX4_isSign 0 = .ok (.iload_n 0, 1) := by decide +kernel
theorem dX4_isSign_1 : decode cX4_isSign 1 = .ok (.bipush 48, 2) := by decide +kernel
theorem dX4_isSign_3 : decode cX4_isSign 3 = .ok (.if_icmp .lt 9, 3) := by decide +kernel
theorem dX4_isSign_6 : decode cX4_isSign 6 = .ok (.iload_n 0, 1) := by decide +kernel
theorem dX4_isSign_7 : decode cX4_isSign 7 = .ok (.bipush 57, 2) := by decide +kernel
theorem dX4_isSign_9 : decode cX4_isSign 9 = .ok (.if_icmp .le 15, 3) := by decide +kernel
theorem dX4_isSign_12 : decode cX4_isSign 12 = .ok (.iload_n 0, 1) := by decide +kernel
theorem dX4_isSign_13 : decode cX4_isSign 13 = .ok (.bipush 35, 2) := by decide +kernel
theorem dX4_isSign_15 : decode cX4_isSign 15 = .ok (.if_icmp .eq 9, 3) := by decide +kernel
theorem dX4_isSign_18 : decode cX4_isSign 18 = .ok (.iload_n 0, 1) := by decide +kernel
theorem dX4_isSign_19 : decode cX4_isSign 19 = .ok (.bipush 46, 2) := by decide +kernel
theorem dX4_isSign_21 : decode cX4_isSign 21 = .ok (.if_icmp .ne 7, 3) := by decide +kernel
theorem dX4_isSign_24 : decode cX4_isSign 24 = .ok (.iconst 1, 1) := by decide +kernel
theorem dX4_isSign_25 : decode cX4_isSign 25 = .ok (.goto 4, 3) := by decide +kernel
theorem dX4_isSign_28 : decode cX4_isSign 28 = .ok (.iconst 0, 1) := by decide +kernel
theorem dX4_isSign_29 : decode cX4_isSign 29 = .ok (.ireturn, 1) := by decide +kernel
set_option maxRecDepth 20000 in
theorem ggX4_tell_X4_tellCell : GoodIn wsX4_tell wsX4_tellCell := goodIn_r _ [6, 7, 8, 9, 10, 11, 12, 13, 14, 17, 18, 19, 20, 21] (by decide +kernel) (by decide +kernel)
set_option maxRecDepth 20000 in
theorem gX4_tell_X4_tellCell : GoodIn wsX4_tell (va_wsS RX4 23 yX4_tellCell wsX4_tellCell) := goodIn_app (goodIn_of _ (by decide +kernel)) ggX4_tell_X4_tellCell
theorem dX4_tell_0 : decode cX4_tell 0 = .ok (.iconst 0, 1) := by decide +kernel
theorem dX4_tell_1 : decode cX4_tell 1 = .ok (.istore_n 2, 1) := by decide +kernel
theorem dX4_tell_2 : decode cX4_tell 2 = .ok (.iconst (-1), 1) := by decide +kernel
theorem dX4_tell_3 : decode cX4_tell 3 = .ok (.istore_n 3, 1) := by decide +kernel
theorem dX4_tell_4 : decode cX4_tell 4 = .ok (.iconst 0, 1) := by decide +kernel
theorem dX4_tell_5 : decode cX4_tell 5 = .ok (.istore 4, 2) := by decide +kernel
theorem dX4_tell_7 : decode cX4_tell 7 = .ok (.iload 4, 2) := by decide +kernel
theorem dX4_tell_9 : decode cX4_tell 9 = .ok (.aload_n 0, 1) := by decide +kernel
theorem dX4_tell_10 : decode cX4_tell 10 = .ok (.getfield 9, 3) := by decide +kernel
theorem dX4_tell_13 : decode cX4_tell 13 = .ok (.if_icmp .ge 70, 3) := by decide +kernel
theorem dX4_tell_16 : decode cX4_tell 16 = .ok (.aload_n 0, 1) := by decide +kernel
theorem dX4_tell_17 : decode cX4_tell 17 = .ok (.getfield 15, 3) := by decide +kernel
theorem dX4_tell_20 : decode cX4_tell 20 = .ok (.iload 4, 2) := by decide +kernel
theorem dX4_tell_22 : decode cX4_tell 22 = .ok (.iaload, 1) := by decide +kernel
theorem dX4_tell_23 : decode cX4_tell 23 = .ok (.istore 5, 2) := by decide +kernel
theorem dX4_tell_25 : decode cX4_tell 25 = .ok (.iload 5, 2) := by decide +kernel
theorem dX4_tell_27 : decode cX4_tell 27 = .ok (.bipush 32, 2) := by decide +kernel
theorem dX4_tell_29 : decode cX4_tell 29 = .ok (.if_icmp .ne 6, 3) := by decide +kernel
theorem dX4_tell_32 : decode cX4_tell 32 = .ok (.goto 45, 3) := by decide +kernel
theorem dX4_tell_35 : decode cX4_tell 35 = .ok (.iload 5, 2) := by decide +kernel
theorem dX4_tell_37 : decode cX4_tell 37 = .ok (.bipush 59, 2) := by decide +kernel
theorem dX4_tell_39 : decode cX4_tell 39 = .ok (.if_icmp .ne 11, 3) := by decide +kernel
theorem dX4_tell_42 : decode cX4_tell 42 = .ok (.iinc 2 1, 3) := by decide +kernel
theorem dX4_tell_45 : decode cX4_tell 45 = .ok (.iconst (-1), 1) := by decide +kernel
theorem dX4_tell_46 : decode cX4_tell 46 = .ok (.istore_n 3, 1) := by decide +kernel
theorem dX4_tell_47 : decode cX4_tell 47 = .ok (.goto 30, 3) := by decide +kernel
theorem dX4_tell_50 : decode cX4_tell 50 = .ok (.iload_n 3, 1) := by decide +kernel
theorem dX4_tell_51 : decode cX4_tell 51 = .ok (.iconst (-1), 1) := by decide +kernel
theorem dX4_tell_52 : decode cX4_tell 52 = .ok (.if_icmp .ne 15, 3) := by decide +kernel
theorem dX4_tell_55 : decode cX4_tell 55 = .ok (.bipush 10, 2) := by decide +kernel
theorem dX4_tell_57 : decode cX4_tell 57 = .ok (.iload 5, 2) := by decide +kernel
theorem dX4_tell_59 : decode cX4_tell 59 = .ok (.bipush 48, 2) := by decide +kernel
theorem dX4_tell_61 : decode cX4_tell 61 = .ok (.isub, 1) := by decide +kernel
theorem dX4_tell_62 : decode cX4_tell 62 = .ok (.imul, 1) := by decide +kernel
theorem dX4_tell_63 : decode cX4_tell 63 = .ok (.istore_n 3, 1) := by decide +kernel
theorem dX4_tell_64 : decode cX4_tell 64 = .ok (.goto 13, 3) := by decide +kernel
theorem dX4_tell_67 : decode cX4_tell 67 = .ok (.aload_n 1, 1) := by decide +kernel
theorem dX4_tell_68 : decode cX4_tell 68 = .ok (.iload_n 3, 1) := by decide +kernel
theorem dX4_tell_69 : decode cX4_tell 69 = .ok (.iload 5, 2) := by decide +kernel
theorem dX4_tell_71 : decode cX4_tell 71 = .ok (.invokestatic 23, 3) := by decide +kernel
theorem dX4_tell_74 : decode cX4_tell 74 = .ok (.iinc 3 1, 3) := by decide +kernel
theorem dX4_tell_77 : decode cX4_tell 77 = .ok (.iinc 4 1, 3) := by decide +kernel
theorem dX4_tell_80 : decode cX4_tell 80 = .ok (.goto (-73), 3) := by decide +kernel
theorem dX4_tell_83 : decode cX4_tell 83 = .ok (.iload_n 2, 1) := by decide +kernel
theorem dX4_tell_84 : decode cX4_tell 84 = .ok (.ireturn, 1) := by decide +kernel
set_option maxRecDepth 20000 in
theorem ggX4_tellCell_X6_isCell : GoodIn wsX4_tellCell wsX6_isCell := goodIn_r _ [5, 6, 7, 4, 8] (by decide +kernel) (by decide +kernel)
set_option maxRecDepth 20000 in
theorem gX4_tellCell_X6_isCell_n27 : GoodIn wsX4_tellCell (wsX6_isCell) := ggX4_tellCell_X6_isCell
theorem dX4_tellCell_0 : decode cX4_tellCell 0 = .ok (.iload_n 1, 1) := by decide +kernel
theorem dX4_tellCell_1 : decode cX4_tellCell 1 = .ok (.invokestatic 27, 3) := by decide +kernel
theorem dX4_tellCell_4 : decode cX4_tellCell 4 = .ok (.ifCond .eq 9, 3) := by decide +kernel
theorem dX4_tellCell_7 : decode cX4_tellCell 7 = .ok (.iload_n 2, 1) := by decide +kernel
theorem dX4_tellCell_8 : decode cX4_tellCell 8 = .ok (.bipush 46, 2) := by decide +kernel
theorem dX4_tellCell_10 : decode cX4_tellCell 10 = .ok (.if_icmp .ne 4, 3) := by decide +kernel
theorem dX4_tellCell_13 : decode cX4_tellCell 13 = .ok (.return_, 1) := by decide +kernel
theorem dX4_tellCell_14 : decode cX4_tellCell 14 = .ok (.iload_n 2, 1) := by decide +kernel
theorem dX4_tellCell_15 : decode cX4_tellCell 15 = .ok (.bipush 35, 2) := by decide +kernel
theorem dX4_tellCell_17 : decode cX4_tellCell 17 = .ok (.if_icmp .ne 13, 3) := by decide +kernel
theorem dX4_tellCell_20 : decode cX4_tellCell 20 = .ok (.aload_n 0, 1) := by decide +kernel
theorem dX4_tellCell_21 : decode cX4_tellCell 21 = .ok (.getfield 30, 3) := by decide +kernel
theorem dX4_tellCell_24 : decode cX4_tellCell 24 = .ok (.iload_n 1, 1) := by decide +kernel
theorem dX4_tellCell_25 : decode cX4_tellCell 25 = .ok (.iconst 1, 1) := by decide +kernel
theorem dX4_tellCell_26 : decode cX4_tellCell 26 = .ok (.iastore, 1) := by decide +kernel
theorem dX4_tellCell_27 : decode cX4_tellCell 27 = .ok (.goto 20, 3) := by decide +kernel
theorem dX4_tellCell_30 : decode cX4_tellCell 30 = .ok (.aload_n 0, 1) := by decide +kernel
theorem dX4_tellCell_31 : decode cX4_tellCell 31 = .ok (.getfield 30, 3) := by decide +kernel
theorem dX4_tellCell_34 : decode cX4_tellCell 34 = .ok (.iload_n 1, 1) := by decide +kernel
theorem dX4_tellCell_35 : decode cX4_tellCell 35 = .ok (.iconst 0, 1) := by decide +kernel
theorem dX4_tellCell_36 : decode cX4_tellCell 36 = .ok (.iastore, 1) := by decide +kernel
theorem dX4_tellCell_37 : decode cX4_tellCell 37 = .ok (.aload_n 0, 1) := by decide +kernel
theorem dX4_tellCell_38 : decode cX4_tellCell 38 = .ok (.getfield 35, 3) := by decide +kernel
theorem dX4_tellCell_41 : decode cX4_tellCell 41 = .ok (.iload_n 1, 1) := by decide +kernel
theorem dX4_tellCell_42 : decode cX4_tellCell 42 = .ok (.iload_n 2, 1) := by decide +kernel
theorem dX4_tellCell_43 : decode cX4_tellCell 43 = .ok (.bipush 48, 2) := by decide +kernel
theorem dX4_tellCell_45 : decode cX4_tellCell 45 = .ok (.isub, 1) := by decide +kernel
theorem dX4_tellCell_46 : decode cX4_tellCell 46 = .ok (.iastore, 1) := by decide +kernel
theorem dX4_tellCell_47 : decode cX4_tellCell 47 = .ok (.return_, 1) := by decide +kernel
theorem dX5_init_0 : decode cX5_init 0 = .ok (.aload_n 0, 1) := by decide +kernel
theorem dX5_init_1 : decode cX5_init 1 = .ok (.invokespecial 3, 3) := by decide +kernel
theorem dX5_init_4 : decode cX5_init 4 = .ok (.aload_n 0, 1) := by decide +kernel
theorem dX5_init_5 : decode cX5_init 5 = .ok (.iconst 1, 1) := by decide +kernel
theorem dX5_init_6 : decode cX5_init 6 = .ok (.putfield 9, 3) := by decide +kernel
theorem dX5_init_9 : decode cX5_init 9 = .ok (.aload_n 0, 1) := by decide +kernel
theorem dX5_init_10 : decode cX5_init 10 = .ok (.iconst 1, 1) := by decide +kernel
theorem dX5_init_11 : decode cX5_init 11 = .ok (.putfield 15, 3) := by decide +kernel
theorem dX5_init_14 : decode cX5_init 14 = .ok (.aload_n 0, 1) := by decide +kernel
theorem dX5_init_15 : decode cX5_init 15 = .ok (.iconst 0, 1) := by decide +kernel
theorem dX5_init_16 : decode cX5_init 16 = .ok (.putfield 18, 3) := by decide +kernel
theorem dX5_init_19 : decode cX5_init 19 = .ok (.aload_n 0, 1) := by decide +kernel
theorem dX5_init_20 : decode cX5_init 20 = .ok (.iconst 0, 1) := by decide +kernel
theorem dX5_init_21 : decode cX5_init 21 = .ok (.putfield 21, 3) := by decide +kernel
theorem dX5_init_24 : decode cX5_init 24 = .ok (.aload_n 0, 1) := by decide +kernel
theorem dX5_init_25 : decode cX5_init 25 = .ok (.bipush 80, 2) := by decide +kernel
theorem dX5_init_27 : decode cX5_init 27 = .ok (.newarray .int, 2) := by decide +kernel
theorem dX5_init_29 : decode cX5_init 29 = .ok (.putfield 24, 3) := by decide +kernel
theorem dX5_init_32 : decode cX5_init 32 = .ok (.aload_n 0, 1) := by decide +kernel
theorem dX5_init_33 : decode cX5_init 33 = .ok (.bipush 80, 2) := by decide +kernel
theorem dX5_init_35 : decode cX5_init 35 = .ok (.newarray .int, 2) := by decide +kernel
theorem dX5_init_37 : decode cX5_init 37 = .ok (.putfield 28, 3) := by decide +kernel
theorem dX5_init_40 : decode cX5_init 40 = .ok (.aload_n 0, 1) := by decide +kernel
theorem dX5_init_41 : decode cX5_init 41 = .ok (.bipush 80, 2) := by decide +kernel
theorem dX5_init_43 : decode cX5_init 43 = .ok (.newarray .int, 2) := by decide +kernel
theorem dX5_init_45 : decode cX5_init 45 = .ok (.putfield 31, 3) := by decide +kernel
theorem dX5_init_48 : decode cX5_init 48 = .ok (.aload_n 0, 1) := by decide +kernel
theorem dX5_init_49 : decode cX5_init 49 = .ok (.sipush 320, 3) := by decide +kernel
theorem dX5_init_52 : decode cX5_init 52 = .ok (.newarray .int, 2) := by decide +kernel
theorem dX5_init_54 : decode cX5_init 54 = .ok (.putfield 34, 3) := by decide +kernel
theorem dX5_init_57 : decode cX5_init 57 = .ok (.return_, 1) := by decide +kernel
theorem dX5_lies_0 : decode cX5_lies 0 = .ok (.iload_n 1, 1) := by decide +kernel
theorem dX5_lies_1 : decode cX5_lies 1 = .ok (.bipush 10, 2) := by decide +kernel
theorem dX5_lies_3 : decode cX5_lies 3 = .ok (.idiv, 1) := by decide +kernel
theorem dX5_lies_4 : decode cX5_lies 4 = .ok (.aload_n 0, 1) := by decide +kernel
theorem dX5_lies_5 : decode cX5_lies 5 = .ok (.getfield 9, 3) := by decide +kernel
theorem dX5_lies_8 : decode cX5_lies 8 = .ok (.iadd, 1) := by decide +kernel
theorem dX5_lies_9 : decode cX5_lies 9 = .ok (.bipush 8, 2) := by decide +kernel
theorem dX5_lies_11 : decode cX5_lies 11 = .ok (.if_icmp .gt 21, 3) := by decide +kernel
theorem dX5_lies_14 : decode cX5_lies 14 = .ok (.iload_n 1, 1) := by decide +kernel
theorem dX5_lies_15 : decode cX5_lies 15 = .ok (.bipush 10, 2) := by decide +kernel
theorem dX5_lies_17 : decode cX5_lies 17 = .ok (.irem, 1) := by decide +kernel
theorem dX5_lies_18 : decode cX5_lies 18 = .ok (.aload_n 0, 1) := by decide +kernel
theorem dX5_lies_19 : decode cX5_lies 19 = .ok (.getfield 15, 3) := by decide +kernel
theorem dX5_lies_22 : decode cX5_lies 22 = .ok (.iadd, 1) := by decide +kernel
theorem dX5_lies_23 : decode cX5_lies 23 = .ok (.bipush 10, 2) := by decide +kernel
theorem dX5_lies_25 : decode cX5_lies 25 = .ok (.if_icmp .gt 7, 3) := by decide +kernel
theorem dX5_lies_28 : decode cX5_lies 28 = .ok (.iconst 1, 1) := by decide +kernel
theorem dX5_lies_29 : decode cX5_lies 29 = .ok (.goto 4, 3) := by decide +kernel
theorem dX5_lies_32 : decode cX5_lies 32 = .ok (.iconst 0, 1) := by decide +kernel
theorem dX5_lies_33 : decode cX5_lies 33 = .ok (.ireturn, 1) := by decide +kernel
theorem dX5_has_0 : decode cX5_has 0 = .ok (.iload_n 2, 1) := by decide +kernel
theorem dX5_has_1 : decode cX5_has 1 = .ok (.bipush 10, 2) := by decide +kernel
theorem dX5_has_3 : decode cX5_has 3 = .ok (.idiv, 1) := by decide +kernel
theorem dX5_has_4 : decode cX5_has 4 = .ok (.iload_n 1, 1) := by decide +kernel
theorem dX5_has_5 : decode cX5_has 5 = .ok (.bipush 10, 2) := by decide +kernel
theorem dX5_has_7 : decode cX5_has 7 = .ok (.idiv, 1) := by decide +kernel
theorem dX5_has_8 : decode cX5_has 8 = .ok (.isub, 1) := by decide +kernel
theorem dX5_has_9 : decode cX5_has 9 = .ok (.istore_n 3, 1) := by decide +kernel
theorem dX5_has_10 : decode cX5_has 10 = .ok (.iload_n 2, 1) := by decide +kernel
theorem dX5_has_11 : decode cX5_has 11 = .ok (.bipush 10, 2) := by decide +kernel
theorem dX5_has_13 : decode cX5_has 13 = .ok (.irem, 1) := by decide +kernel
theorem dX5_has_14 : decode cX5_has 14 = .ok (.iload_n 1, 1) := by decide +kernel
theorem dX5_has_15 : decode cX5_has 15 = .ok (.bipush 10, 2) := by decide +kernel
theorem dX5_has_17 : decode cX5_has 17 = .ok (.irem, 1) := by decide +kernel
theorem dX5_has_18 : decode cX5_has 18 = .ok (.isub, 1) := by decide +kernel
theorem dX5_has_19 : decode cX5_has 19 = .ok (.istore 4, 2) := by decide +kernel
theorem dX5_has_21 : decode cX5_has 21 = .ok (.iload_n 3, 1) := by decide +kernel
theorem dX5_has_22 : decode cX5_has 22 = .ok (.ifCond .lt 29, 3) := by decide +kernel
theorem dX5_has_25 : decode cX5_has 25 = .ok (.iload_n 3, 1) := by decide +kernel
theorem dX5_has_26 : decode cX5_has 26 = .ok (.aload_n 0, 1) := by decide +kernel
theorem dX5_has_27 : decode cX5_has 27 = .ok (.getfield 9, 3) := by decide +kernel
theorem dX5_has_30 : decode cX5_has 30 = .ok (.if_icmp .ge 21, 3) := by decide +kernel
theorem dX5_has_33 : decode cX5_has 33 = .ok (.iload 4, 2) := by decide +kernel
theorem dX5_has_35 : decode cX5_has 35 = .ok (.ifCond .lt 16, 3) := by decide +kernel
theorem dX5_has_38 : decode cX5_has 38 = .ok (.iload 4, 2) := by decide +kernel
theorem dX5_has_40 : decode cX5_has 40 = .ok (.aload_n 0, 1) := by decide +kernel
theorem dX5_has_41 : decode cX5_has 41 = .ok (.getfield 15, 3) := by decide +kernel
theorem dX5_has_44 : decode cX5_has 44 = .ok (.if_icmp .ge 7, 3) := by decide +kernel
theorem dX5_has_47 : decode cX5_has 47 = .ok (.iconst 1, 1) := by decide +kernel
theorem dX5_has_48 : decode cX5_has 48 = .ok (.goto 4, 3) := by decide +kernel
theorem dX5_has_51 : decode cX5_has 51 = .ok (.iconst 0, 1) := by decide +kernel
theorem dX5_has_52 : decode cX5_has 52 = .ok (.ireturn, 1) := by decide +kernel
set_option maxRecDepth 20000 in
theorem ggX5_share_X5_has : GoodIn wsX5_share wsX5_has := goodIn_r _ [6, 7, 8, 9, 10, 11, 12, 13, 14, 15, 16] (by decide +kernel) (by decide +kernel)
set_option maxRecDepth 20000 in
theorem gX5_share_X5_has : GoodIn wsX5_share (wsV RX5 37 RX5 yX5_has wsX5_has) := goodIn_app (goodIn_of _ (by decide +kernel)) ggX5_share_X5_has
theorem dX5_share_0 : decode cX5_share 0 = .ok (.iload_n 3, 1) := by decide +kernel
theorem dX5_share_1 : decode cX5_share 1 = .ok (.ifCond .ne 18, 3) := by decide +kernel
theorem dX5_share_4 : decode cX5_share 4 = .ok (.aload_n 0, 1) := by decide +kernel
theorem dX5_share_5 : decode cX5_share 5 = .ok (.iload_n 1, 1) := by decide +kernel
theorem dX5_share_6 : decode cX5_share 6 = .ok (.iload_n 2, 1) := by decide +kernel
theorem dX5_share_7 : decode cX5_share 7 = .ok (.invokevirtual 37, 3) := by decide +kernel
theorem dX5_share_10 : decode cX5_share 10 = .ok (.ifCond .eq 7, 3) := by decide +kernel
theorem dX5_share_13 : decode cX5_share 13 = .ok (.iconst 1, 1) := by decide +kernel
theorem dX5_share_14 : decode cX5_share 14 = .ok (.goto 4, 3) := by decide +kernel
theorem dX5_share_17 : decode cX5_share 17 = .ok (.iconst 0, 1) := by decide +kernel
theorem dX5_share_18 : decode cX5_share 18 = .ok (.ireturn, 1) := by decide +kernel
theorem dX5_share_19 : decode cX5_share 19 = .ok (.aload_n 0, 1) := by decide +kernel
theorem dX5_share_20 : decode cX5_share 20 = .ok (.getfield 34, 3) := by decide +kernel
theorem dX5_share_23 : decode cX5_share 23 = .ok (.bipush 80, 2) := by decide +kernel
theorem dX5_share_25 : decode cX5_share 25 = .ok (.iload_n 3, 1) := by decide +kernel
theorem dX5_share_26 : decode cX5_share 26 = .ok (.imul, 1) := by decide +kernel
theorem dX5_share_27 : decode cX5_share 27 = .ok (.iload_n 1, 1) := by decide +kernel
theorem dX5_share_28 : decode cX5_share 28 = .ok (.iadd, 1) := by decide +kernel
theorem dX5_share_29 : decode cX5_share 29 = .ok (.iaload, 1) := by decide +kernel
theorem dX5_share_30 : decode cX5_share 30 = .ok (.ireturn, 1) := by decide +kernel
theorem dX5_isThin_0 : decode cX5_isThin 0 = .ok (.aload_n 0, 1) := by decide +kernel
theorem dX5_isThin_1 : decode cX5_isThin 1 = .ok (.getfield 24, 3) := by decide +kernel
theorem dX5_isThin_4 : decode cX5_isThin 4 = .ok (.iload_n 1, 1) := by decide +kernel
theorem dX5_isThin_5 : decode cX5_isThin 5 = .ok (.iaload, 1) := by decide +kernel
theorem dX5_isThin_6 : decode cX5_isThin 6 = .ok (.iconst (-1), 1) := by decide +kernel
theorem dX5_isThin_7 : decode cX5_isThin 7 = .ok (.if_icmp .eq 20, 3) := by decide +kernel
theorem dX5_isThin_10 : decode cX5_isThin 10 = .ok (.aload_n 0, 1) := by decide +kernel
theorem dX5_isThin_11 : decode cX5_isThin 11 = .ok (.getfield 24, 3) := by decide +kernel
theorem dX5_isThin_14 : decode cX5_isThin 14 = .ok (.iload_n 1, 1) := by decide +kernel
theorem dX5_isThin_15 : decode cX5_isThin 15 = .ok (.iaload, 1) := by decide +kernel
theorem dX5_isThin_16 : decode cX5_isThin 16 = .ok (.aload_n 0, 1) := by decide +kernel
theorem dX5_isThin_17 : decode cX5_isThin 17 = .ok (.getfield 18, 3) := by decide +kernel
theorem dX5_isThin_20 : decode cX5_isThin 20 = .ok (.if_icmp .ge 7, 3) := by decide +kernel
theorem dX5_isThin_23 : decode cX5_isThin 23 = .ok (.iconst 1, 1) := by decide +kernel
theorem dX5_isThin_24 : decode cX5_isThin 24 = .ok (.goto 4, 3) := by decide +kernel
theorem dX5_isThin_27 : decode cX5_isThin 27 = .ok (.iconst 0, 1) := by decide +kernel
theorem dX5_isThin_28 : decode cX5_isThin 28 = .ok (.ireturn, 1) := by decide +kernel
theorem dX5_isFull_0 : decode cX5_isFull 0 = .ok (.aload_n 0, 1) := by decide +kernel
theorem dX5_isFull_1 : decode cX5_isFull 1 = .ok (.getfield 24, 3) := by decide +kernel
theorem dX5_isFull_4 : decode cX5_isFull 4 = .ok (.iload_n 1, 1) := by decide +kernel
theorem dX5_isFull_5 : decode cX5_isFull 5 = .ok (.iaload, 1) := by decide +kernel
theorem dX5_isFull_6 : decode cX5_isFull 6 = .ok (.iconst (-1), 1) := by decide +kernel
theorem dX5_isFull_7 : decode cX5_isFull 7 = .ok (.if_icmp .eq 20, 3) := by decide +kernel
theorem dX5_isFull_10 : decode cX5_isFull 10 = .ok (.aload_n 0, 1) := by decide +kernel
theorem dX5_isFull_11 : decode cX5_isFull 11 = .ok (.getfield 24, 3) := by decide +kernel
theorem dX5_isFull_14 : decode cX5_isFull 14 = .ok (.iload_n 1, 1) := by decide +kernel
theorem dX5_isFull_15 : decode cX5_isFull 15 = .ok (.iaload, 1) := by decide +kernel
theorem dX5_isFull_16 : decode cX5_isFull 16 = .ok (.aload_n 0, 1) := by decide +kernel
theorem dX5_isFull_17 : decode cX5_isFull 17 = .ok (.getfield 21, 3) := by decide +kernel
theorem dX5_isFull_20 : decode cX5_isFull 20 = .ok (.if_icmp .lt 7, 3) := by decide +kernel
theorem dX5_isFull_23 : decode cX5_isFull 23 = .ok (.iconst 1, 1) := by decide +kernel
theorem dX5_isFull_24 : decode cX5_isFull 24 = .ok (.goto 4, 3) := by decide +kernel
theorem dX5_isFull_27 : decode cX5_isFull 27 = .ok (.iconst 0, 1) := by decide +kernel
theorem dX5_isFull_28 : decode cX5_isFull 28 = .ok (.ireturn, 1) := by decide +kernel
set_option maxRecDepth 20000 in
theorem ggX5_measure_J7_fill_53178 : GoodIn wsX5_measure wsJ7_fill_53178 := goodIn_r _ [8] (by decide +kernel) (by decide +kernel)
set_option maxRecDepth 20000 in
theorem gX5_measure_J7_fill_53178 : GoodIn wsX5_measure (va_wsS RX5 41 yJ7_fill_53178 wsJ7_fill_53178) := goodIn_app (goodIn_of _ (by decide +kernel)) ggX5_measure_J7_fill_53178
set_option maxRecDepth 20000 in
theorem ggX5_measure_X5_lies : GoodIn wsX5_measure wsX5_lies := goodIn_r _ [13, 14, 15, 42, 43, 44, 45, 46, 47, 48, 49] (by decide +kernel) (by decide +kernel)
set_option maxRecDepth 20000 in
theorem gX5_measure_X5_lies : GoodIn wsX5_measure (wsV RX5 47 RX5 yX5_lies wsX5_lies) := goodIn_app (goodIn_of _ (by decide +kernel)) ggX5_measure_X5_lies
set_option maxRecDepth 20000 in
theorem ggX5_measure_X5_addUp : GoodIn wsX5_measure wsX5_addUp := goodIn_r _ [19, 14, 15, 3, 20, 4, 21, 22, 23, 24, 25, 26, 27, 42, 43, 44, 45, 46, 47, 48, 49, 50, 51, 52, 53, 54] (by decide +kernel) (by decide +kernel)
set_option maxRecDepth 20000 in
theorem gX5_measure_X5_addUp : GoodIn wsX5_measure (wsV RX5 51 RX5 yX5_addUp wsX5_addUp) := goodIn_app (goodIn_of _ (by decide +kernel)) ggX5_measure_X5_addUp
set_option maxRecDepth 20000 in
theorem ggX5_measure_X5_isThin : GoodIn wsX5_measure wsX5_isThin := goodIn_r _ [31, 4, 32, 42, 43, 44, 45, 46, 47, 48, 49] (by decide +kernel) (by decide +kernel)
set_option maxRecDepth 20000 in
theorem gX5_measure_X5_isThin : GoodIn wsX5_measure (wsV RX5 55 RX5 yX5_isThin wsX5_isThin) := goodIn_app (goodIn_of _ (by decide +kernel)) ggX5_measure_X5_isThin
set_option maxRecDepth 20000 in
theorem ggX5_measure_X5_spread : GoodIn wsX5_measure wsX5_spread := goodIn_r _ [36, 14, 15, 42, 43, 44, 45, 46, 47, 48, 49] (by decide +kernel) (by decide +kernel)
set_option maxRecDepth 20000 in
theorem gX5_measure_X5_spread : GoodIn wsX5_measure (wsV RX5 58 RX5 yX5_spread wsX5_spread) := goodIn_app (goodIn_of _ (by decide +kernel)) ggX5_measure_X5_spread
set_option maxRecDepth 20000 in
theorem ggX5_measure_X5_isFull : GoodIn wsX5_measure wsX5_isFull := goodIn_r _ [40, 4, 41, 42, 43, 44, 45, 46, 47, 48, 49] (by decide +kernel) (by decide +kernel)
set_option maxRecDepth 20000 in
theorem gX5_measure_X5_isFull : GoodIn wsX5_measure (wsV RX5 62 RX5 yX5_isFull wsX5_isFull) := goodIn_app (goodIn_of _ (by decide +kernel)) ggX5_measure_X5_isFull
theorem dX5_measure_0 : decode cX5_measure 0 = .ok (.aload_n 0, 1) := by decide +kernel
theorem dX5_measure_1 : decode cX5_measure 1 = .ok (.getfield 28, 3) := by decide +kernel
theorem dX5_measure_4 : decode cX5_measure 4 = .ok (.iconst 0, 1) := by decide +kernel
theorem dX5_measure_5 : decode cX5_measure 5 = .ok (.invokestatic 41, 3) := by decide +kernel
theorem dX5_measure_8 : decode cX5_measure 8 = .ok (.aload_n 0, 1) := by decide +kernel
theorem dX5_measure_9 : decode cX5_measure 9 = .ok (.getfield 31, 3) := by decide +kernel
theorem dX5_measure_12 : decode cX5_measure 12 = .ok (.iconst 0, 1) := by decide +kernel
theorem dX5_measure_13 : decode cX5_measure 13 = .ok (.invokestatic 41, 3) := by decide +kernel
theorem dX5_measure_16 : decode cX5_measure 16 = .ok (.aload_n 0, 1) := by decide +kernel
theorem dX5_measure_17 : decode cX5_measure 17 = .ok (.getfield 34, 3) := by decide +kernel
theorem dX5_measure_20 : decode cX5_measure 20 = .ok (.iconst 0, 1) := by decide +kernel
theorem dX5_measure_21 : decode cX5_measure 21 = .ok (.invokestatic 41, 3) := by decide +kernel
theorem dX5_measure_24 : decode cX5_measure 24 = .ok (.iconst 0, 1) := by decide +kernel
theorem dX5_measure_25 : decode cX5_measure 25 = .ok (.istore_n 2, 1) := by decide +kernel
theorem dX5_measure_26 : decode cX5_measure 26 = .ok (.iload_n 2, 1) := by decide +kernel
theorem dX5_measure_27 : decode cX5_measure 27 = .ok (.bipush 80, 2) := by decide +kernel
theorem dX5_measure_29 : decode cX5_measure 29 = .ok (.if_icmp .ge 66, 3) := by decide +kernel
theorem dX5_measure_32 : decode cX5_measure 32 = .ok (.aload_n 0, 1) := by decide +kernel
theorem dX5_measure_33 : decode cX5_measure 33 = .ok (.getfield 24, 3) := by decide +kernel
theorem dX5_measure_36 : decode cX5_measure 36 = .ok (.iload_n 2, 1) := by decide +kernel
theorem dX5_measure_37 : decode cX5_measure 37 = .ok (.iconst (-1), 1) := by decide +kernel
theorem dX5_measure_38 : decode cX5_measure 38 = .ok (.iastore, 1) := by decide +kernel
theorem dX5_measure_39 : decode cX5_measure 39 = .ok (.aload_n 0, 1) := by decide +kernel
theorem dX5_measure_40 : decode cX5_measure 40 = .ok (.iload_n 2, 1) := by decide +kernel
theorem dX5_measure_41 : decode cX5_measure 41 = .ok (.invokevirtual 47, 3) := by decide +kernel
theorem dX5_measure_44 : decode cX5_measure 44 = .ok (.ifCond .eq 9, 3) := by decide +kernel
theorem dX5_measure_47 : decode cX5_measure 47 = .ok (.aload_n 0, 1) := by decide +kernel
theorem dX5_measure_48 : decode cX5_measure 48 = .ok (.aload_n 1, 1) := by decide +kernel
theorem dX5_measure_49 : decode cX5_measure 49 = .ok (.iload_n 2, 1) := by decide +kernel
theorem dX5_measure_50 : decode cX5_measure 50 = .ok (.invokevirtual 51, 3) := by decide +kernel
theorem dX5_measure_53 : decode cX5_measure 53 = .ok (.aload_n 0, 1) := by decide +kernel
theorem dX5_measure_54 : decode cX5_measure 54 = .ok (.iload_n 2, 1) := by decide +kernel
theorem dX5_measure_55 : decode cX5_measure 55 = .ok (.invokevirtual 55, 3) := by decide +kernel
theorem dX5_measure_58 : decode cX5_measure 58 = .ok (.ifCond .eq 13, 3) := by decide +kernel
theorem dX5_measure_61 : decode cX5_measure 61 = .ok (.aload_n 0, 1) := by decide +kernel
theorem dX5_measure_62 : decode cX5_measure 62 = .ok (.aload_n 0, 1) := by decide +kernel
theorem dX5_measure_63 : decode cX5_measure 63 = .ok (.getfield 28, 3) := by decide +kernel
theorem dX5_measure_66 : decode cX5_measure 66 = .ok (.iload_n 2, 1) := by decide +kernel
theorem dX5_measure_67 : decode cX5_measure 67 = .ok (.iconst 1, 1) := by decide +kernel
theorem dX5_measure_68 : decode cX5_measure 68 = .ok (.invokevirtual 58, 3) := by decide +kernel
theorem dX5_measure_71 : decode cX5_measure 71 = .ok (.aload_n 0, 1) := by decide +kernel
theorem dX5_measure_72 : decode cX5_measure 72 = .ok (.iload_n 2, 1) := by decide +kernel
theorem dX5_measure_73 : decode cX5_measure 73 = .ok (.invokevirtual 62, 3) := by decide +kernel
theorem dX5_measure_76 : decode cX5_measure 76 = .ok (.ifCond .eq 13, 3) := by decide +kernel
theorem dX5_measure_79 : decode cX5_measure 79 = .ok (.aload_n 0, 1) := by decide +kernel
theorem dX5_measure_80 : decode cX5_measure 80 = .ok (.aload_n 0, 1) := by decide +kernel
theorem dX5_measure_81 : decode cX5_measure 81 = .ok (.getfield 31, 3) := by decide +kernel
theorem dX5_measure_84 : decode cX5_measure 84 = .ok (.iload_n 2, 1) := by decide +kernel
theorem dX5_measure_85 : decode cX5_measure 85 = .ok (.iconst 1, 1) := by decide +kernel
theorem dX5_measure_86 : decode cX5_measure 86 = .ok (.invokevirtual 58, 3) := by decide +kernel
theorem dX5_measure_89 : decode cX5_measure 89 = .ok (.iinc 2 1, 3) := by decide +kernel
theorem dX5_measure_92 : decode cX5_measure 92 = .ok (.goto (-66), 3) := by decide +kernel
theorem dX5_measure_95 : decode cX5_measure 95 = .ok (.return_, 1) := by decide +kernel
set_option maxRecDepth 20000 in
theorem ggX5_addUp_X0_sumOf : GoodIn wsX5_addUp wsX0_sumOf := goodIn_r _ [10, 11, 12, 21, 22, 23, 24, 25] (by decide +kernel) (by decide +kernel)
set_option maxRecDepth 20000 in
theorem gX5_addUp_X0_sumOf : GoodIn wsX5_addUp (wsV RX5 65 RX0 yX0_sumOf wsX0_sumOf) := goodIn_app (goodIn_of _ (by decide +kernel)) ggX5_addUp_X0_sumOf
theorem dX5_addUp_0 : decode cX5_addUp 0 = .ok (.iconst 0, 1) := by decide +kernel
theorem dX5_addUp_1 : decode cX5_addUp 1 = .ok (.istore_n 3, 1) := by decide +kernel
theorem dX5_addUp_2 : decode cX5_addUp 2 = .ok (.iconst 0, 1) := by decide +kernel
theorem dX5_addUp_3 : decode cX5_addUp 3 = .ok (.istore 4, 2) := by decide +kernel
theorem dX5_addUp_5 : decode cX5_addUp 5 = .ok (.iload 4, 2) := by decide +kernel
theorem dX5_addUp_7 : decode cX5_addUp 7 = .ok (.aload_n 0, 1) := by decide +kernel
theorem dX5_addUp_8 : decode cX5_addUp 8 = .ok (.getfield 9, 3) := by decide +kernel
theorem dX5_addUp_11 : decode cX5_addUp 11 = .ok (.if_icmp .ge 69, 3) := by decide +kernel
theorem dX5_addUp_14 : decode cX5_addUp 14 = .ok (.iconst 0, 1) := by decide +kernel
theorem dX5_addUp_15 : decode cX5_addUp 15 = .ok (.istore 5, 2) := by decide +kernel
theorem dX5_addUp_17 : decode cX5_addUp 17 = .ok (.iload 5, 2) := by decide +kernel
theorem dX5_addUp_19 : decode cX5_addUp 19 = .ok (.aload_n 0, 1) := by decide +kernel
theorem dX5_addUp_20 : decode cX5_addUp 20 = .ok (.getfield 15, 3) := by decide +kernel
theorem dX5_addUp_23 : decode cX5_addUp 23 = .ok (.if_icmp .ge 51, 3) := by decide +kernel
theorem dX5_addUp_26 : decode cX5_addUp 26 = .ok (.iload_n 2, 1) := by decide +kernel
theorem dX5_addUp_27 : decode cX5_addUp 27 = .ok (.bipush 10, 2) := by decide +kernel
theorem dX5_addUp_29 : decode cX5_addUp 29 = .ok (.iload 4, 2) := by decide +kernel
theorem dX5_addUp_31 : decode cX5_addUp 31 = .ok (.imul, 1) := by decide +kernel
theorem dX5_addUp_32 : decode cX5_addUp 32 = .ok (.iadd, 1) := by decide +kernel
theorem dX5_addUp_33 : decode cX5_addUp 33 = .ok (.iload 5, 2) := by decide +kernel
theorem dX5_addUp_35 : decode cX5_addUp 35 = .ok (.iadd, 1) := by decide +kernel
theorem dX5_addUp_36 : decode cX5_addUp 36 = .ok (.istore 6, 2) := by decide +kernel
theorem dX5_addUp_38 : decode cX5_addUp 38 = .ok (.iload_n 3, 1) := by decide +kernel
theorem dX5_addUp_39 : decode cX5_addUp 39 = .ok (.aload_n 1, 1) := by decide +kernel
theorem dX5_addUp_40 : decode cX5_addUp 40 = .ok (.iload 6, 2) := by decide +kernel
theorem dX5_addUp_42 : decode cX5_addUp 42 = .ok (.invokevirtual 65, 3) := by decide +kernel
theorem dX5_addUp_45 : decode cX5_addUp 45 = .ok (.iadd, 1) := by decide +kernel
theorem dX5_addUp_46 : decode cX5_addUp 46 = .ok (.istore_n 3, 1) := by decide +kernel
theorem dX5_addUp_47 : decode cX5_addUp 47 = .ok (.aload_n 0, 1) := by decide +kernel
theorem dX5_addUp_48 : decode cX5_addUp 48 = .ok (.getfield 34, 3) := by decide +kernel
theorem dX5_addUp_51 : decode cX5_addUp 51 = .ok (.bipush 80, 2) := by decide +kernel
theorem dX5_addUp_53 : decode cX5_addUp 53 = .ok (.aload_n 1, 1) := by decide +kernel
theorem dX5_addUp_54 : decode cX5_addUp 54 = .ok (.getfield 71, 3) := by decide +kernel
theorem dX5_addUp_57 : decode cX5_addUp 57 = .ok (.iload 6, 2) := by decide +kernel
theorem dX5_addUp_59 : decode cX5_addUp 59 = .ok (.iaload, 1) := by decide +kernel
theorem dX5_addUp_60 : decode cX5_addUp 60 = .ok (.imul, 1) := by decide +kernel
theorem dX5_addUp_61 : decode cX5_addUp 61 = .ok (.iload_n 2, 1) := by decide +kernel
theorem dX5_addUp_62 : decode cX5_addUp 62 = .ok (.iadd, 1) := by decide +kernel
theorem dX5_addUp_63 : decode cX5_addUp 63 = .ok (.dup2, 1) := by decide +kernel
theorem dX5_addUp_64 : decode cX5_addUp 64 = .ok (.iaload, 1) := by decide +kernel
theorem dX5_addUp_65 : decode cX5_addUp 65 = .ok (.iconst 1, 1) := by decide +kernel
theorem dX5_addUp_66 : decode cX5_addUp 66 = .ok (.iadd, 1) := by decide +kernel
theorem dX5_addUp_67 : decode cX5_addUp 67 = .ok (.iastore, 1) := by decide +kernel
theorem dX5_addUp_68 : decode cX5_addUp 68 = .ok (.iinc 5 1, 3) := by decide +kernel
theorem dX5_addUp_71 : decode cX5_addUp 71 = .ok (.goto (-54), 3) := by decide +kernel
theorem dX5_addUp_74 : decode cX5_addUp 74 = .ok (.iinc 4 1, 3) := by decide +kernel
theorem dX5_addUp_77 : decode cX5_addUp 77 = .ok (.goto (-72), 3) := by decide +kernel
theorem dX5_addUp_80 : decode cX5_addUp 80 = .ok (.aload_n 0, 1) := by decide +kernel
theorem dX5_addUp_81 : decode cX5_addUp 81 = .ok (.getfield 24, 3) := by decide +kernel
theorem dX5_addUp_84 : decode cX5_addUp 84 = .ok (.iload_n 2, 1) := by decide +kernel
theorem dX5_addUp_85 : decode cX5_addUp 85 = .ok (.iload_n 3, 1) := by decide +kernel
theorem dX5_addUp_86 : decode cX5_addUp 86 = .ok (.iastore, 1) := by decide +kernel
theorem dX5_addUp_87 : decode cX5_addUp 87 = .ok (.return_, 1) := by decide +kernel
theorem dX5_spread_0 : decode cX5_spread 0 = .ok (.iconst 0, 1) := by decide +kernel
theorem dX5_spread_1 : decode cX5_spread 1 = .ok (.istore 4, 2) := by decide +kernel
theorem dX5_spread_3 : decode cX5_spread 3 = .ok (.iload 4, 2) := by decide +kernel
theorem dX5_spread_5 : decode cX5_spread 5 = .ok (.aload_n 0, 1) := by decide +kernel
theorem dX5_spread_6 : decode cX5_spread 6 = .ok (.getfield 9, 3) := by decide +kernel
theorem dX5_spread_9 : decode cX5_spread 9 = .ok (.if_icmp .ge 43, 3) := by decide +kernel
theorem dX5_spread_12 : decode cX5_spread 12 = .ok (.iconst 0, 1) := by decide +kernel
theorem dX5_spread_13 : decode cX5_spread 13 = .ok (.istore 5, 2) := by decide +kernel
theorem dX5_spread_15 : decode cX5_spread 15 = .ok (.iload 5, 2) := by decide +kernel
theorem dX5_spread_17 : decode cX5_spread 17 = .ok (.aload_n 0, 1) := by decide +kernel
theorem dX5_spread_18 : decode cX5_spread 18 = .ok (.getfield 15, 3) := by decide +kernel
theorem dX5_spread_21 : decode cX5_spread 21 = .ok (.if_icmp .ge 25, 3) := by decide +kernel
theorem dX5_spread_24 : decode cX5_spread 24 = .ok (.aload_n 1, 1) := by decide +kernel
theorem dX5_spread_25 : decode cX5_spread 25 = .ok (.iload_n 2, 1) := by decide +kernel
theorem dX5_spread_26 : decode cX5_spread 26 = .ok (.bipush 10, 2) := by decide +kernel
theorem dX5_spread_28 : decode cX5_spread 28 = .ok (.iload 4, 2) := by decide +kernel
theorem dX5_spread_30 : decode cX5_spread 30 = .ok (.imul, 1) := by decide +kernel
theorem dX5_spread_31 : decode cX5_spread 31 = .ok (.iadd, 1) := by decide +kernel
theorem dX5_spread_32 : decode cX5_spread 32 = .ok (.iload 5, 2) := by decide +kernel
theorem dX5_spread_34 : decode cX5_spread 34 = .ok (.iadd, 1) := by decide +kernel
theorem dX5_spread_35 : decode cX5_spread 35 = .ok (.dup2, 1) := by decide +kernel
theorem dX5_spread_36 : decode cX5_spread 36 = .ok (.iaload, 1) := by decide +kernel
theorem dX5_spread_37 : decode cX5_spread 37 = .ok (.iload_n 3, 1) := by decide +kernel
theorem dX5_spread_38 : decode cX5_spread 38 = .ok (.iadd, 1) := by decide +kernel
theorem dX5_spread_39 : decode cX5_spread 39 = .ok (.iastore, 1) := by decide +kernel
theorem dX5_spread_40 : decode cX5_spread 40 = .ok (.iinc 5 1, 3) := by decide +kernel
theorem dX5_spread_43 : decode cX5_spread 43 = .ok (.goto (-28), 3) := by decide +kernel
theorem dX5_spread_46 : decode cX5_spread 46 = .ok (.iinc 4 1, 3) := by decide +kernel
theorem dX5_spread_49 : decode cX5_spread 49 = .ok (.goto (-46), 3) := by decide +kernel
theorem dX5_spread_52 : decode cX5_spread 52 = .ok (.return_, 1) := by decide +kernel
set_option maxRecDepth 20000 in
theorem ggX5_shift_X5_shiftOne : GoodIn wsX5_shift wsX5_shiftOne := goodIn_r _ [14, 15, 16, 17, 18, 19, 20, 13, 21, 22, 23, 24, 25, 26, 27, 28, 29, 30, 31, 1, 6, 32, 33, 34, 35, 36, 37, 38, 39] (by decide +kernel) (by decide +kernel)
set_option maxRecDepth 20000 in
theorem gX5_shift_X5_shiftOne : GoodIn wsX5_shift (wsV RX5 83 RX5 yX5_shiftOne wsX5_shiftOne) := goodIn_app (goodIn_of _ (by decide +kernel)) ggX5_shift_X5_shiftOne
theorem dX5_shift_0 : decode cX5_shift 0 = .ok (.iload_n 1, 1) := by decide +kernel
theorem dX5_shift_1 : decode cX5_shift 1 = .ok (.bipush 10, 2) := by decide +kernel
theorem dX5_shift_3 : decode cX5_shift 3 = .ok (.idiv, 1) := by decide +kernel
theorem dX5_shift_4 : decode cX5_shift 4 = .ok (.istore_n 3, 1) := by decide +kernel
theorem dX5_shift_5 : decode cX5_shift 5 = .ok (.iload_n 1, 1) := by decide +kernel
theorem dX5_shift_6 : decode cX5_shift 6 = .ok (.bipush 10, 2) := by decide +kernel
theorem dX5_shift_8 : decode cX5_shift 8 = .ok (.irem, 1) := by decide +kernel
theorem dX5_shift_9 : decode cX5_shift 9 = .ok (.istore 4, 2) := by decide +kernel
theorem dX5_shift_11 : decode cX5_shift 11 = .ok (.iload_n 3, 1) := by decide +kernel
theorem dX5_shift_12 : decode cX5_shift 12 = .ok (.bipush 8, 2) := by decide +kernel
theorem dX5_shift_14 : decode cX5_shift 14 = .ok (.aload_n 0, 1) := by decide +kernel
theorem dX5_shift_15 : decode cX5_shift 15 = .ok (.getfield 9, 3) := by decide +kernel
theorem dX5_shift_18 : decode cX5_shift 18 = .ok (.isub, 1) := by decide +kernel
theorem dX5_shift_19 : decode cX5_shift 19 = .ok (.invokestatic 74, 3) := by decide +kernel
theorem dX5_shift_22 : decode cX5_shift 22 = .ok (.istore 5, 2) := by decide +kernel
theorem dX5_shift_24 : decode cX5_shift 24 = .ok (.iload 4, 2) := by decide +kernel
theorem dX5_shift_26 : decode cX5_shift 26 = .ok (.bipush 10, 2) := by decide +kernel
theorem dX5_shift_28 : decode cX5_shift 28 = .ok (.aload_n 0, 1) := by decide +kernel
theorem dX5_shift_29 : decode cX5_shift 29 = .ok (.getfield 15, 3) := by decide +kernel
theorem dX5_shift_32 : decode cX5_shift 32 = .ok (.isub, 1) := by decide +kernel
theorem dX5_shift_33 : decode cX5_shift 33 = .ok (.invokestatic 74, 3) := by decide +kernel
theorem dX5_shift_36 : decode cX5_shift 36 = .ok (.istore 6, 2) := by decide +kernel
theorem dX5_shift_38 : decode cX5_shift 38 = .ok (.iconst 0, 1) := by decide +kernel
theorem dX5_shift_39 : decode cX5_shift 39 = .ok (.iload_n 3, 1) := by decide +kernel
theorem dX5_shift_40 : decode cX5_shift 40 = .ok (.aload_n 0, 1) := by decide +kernel
theorem dX5_shift_41 : decode cX5_shift 41 = .ok (.getfield 9, 3) := by decide +kernel
theorem dX5_shift_44 : decode cX5_shift 44 = .ok (.isub, 1) := by decide +kernel
theorem dX5_shift_45 : decode cX5_shift 45 = .ok (.iconst 1, 1) := by decide +kernel
theorem dX5_shift_46 : decode cX5_shift 46 = .ok (.iadd, 1) := by decide +kernel
theorem dX5_shift_47 : decode cX5_shift 47 = .ok (.invokestatic 80, 3) := by decide +kernel
theorem dX5_shift_50 : decode cX5_shift 50 = .ok (.istore 7, 2) := by decide +kernel
theorem dX5_shift_52 : decode cX5_shift 52 = .ok (.iload 7, 2) := by decide +kernel
theorem dX5_shift_54 : decode cX5_shift 54 = .ok (.iload 5, 2) := by decide +kernel
theorem dX5_shift_56 : decode cX5_shift 56 = .ok (.if_icmp .gt 50, 3) := by decide +kernel
theorem dX5_shift_59 : decode cX5_shift 59 = .ok (.iconst 0, 1) := by decide +kernel
theorem dX5_shift_60 : decode cX5_shift 60 = .ok (.iload 4, 2) := by decide +kernel
theorem dX5_shift_62 : decode cX5_shift 62 = .ok (.aload_n 0, 1) := by decide +kernel
theorem dX5_shift_63 : decode cX5_shift 63 = .ok (.getfield 15, 3) := by decide +kernel
theorem dX5_shift_66 : decode cX5_shift 66 = .ok (.isub, 1) := by decide +kernel
theorem dX5_shift_67 : decode cX5_shift 67 = .ok (.iconst 1, 1) := by decide +kernel
theorem dX5_shift_68 : decode cX5_shift 68 = .ok (.iadd, 1) := by decide +kernel
theorem dX5_shift_69 : decode cX5_shift 69 = .ok (.invokestatic 80, 3) := by decide +kernel
theorem dX5_shift_72 : decode cX5_shift 72 = .ok (.istore 8, 2) := by decide +kernel
theorem dX5_shift_74 : decode cX5_shift 74 = .ok (.iload 8, 2) := by decide +kernel
theorem dX5_shift_76 : decode cX5_shift 76 = .ok (.iload 6, 2) := by decide +kernel
theorem dX5_shift_78 : decode cX5_shift 78 = .ok (.if_icmp .gt 22, 3) := by decide +kernel
theorem dX5_shift_81 : decode cX5_shift 81 = .ok (.aload_n 0, 1) := by decide +kernel
theorem dX5_shift_82 : decode cX5_shift 82 = .ok (.bipush 10, 2) := by decide +kernel
theorem dX5_shift_84 : decode cX5_shift 84 = .ok (.iload 7, 2) := by decide +kernel
theorem dX5_shift_86 : decode cX5_shift 86 = .ok (.imul, 1) := by decide +kernel
theorem dX5_shift_87 : decode cX5_shift 87 = .ok (.iload 8, 2) := by decide +kernel
theorem dX5_shift_89 : decode cX5_shift 89 = .ok (.iadd, 1) := by decide +kernel
theorem dX5_shift_90 : decode cX5_shift 90 = .ok (.iload_n 2, 1) := by decide +kernel
theorem dX5_shift_91 : decode cX5_shift 91 = .ok (.invokevirtual 83, 3) := by decide +kernel
theorem dX5_shift_94 : decode cX5_shift 94 = .ok (.iinc 8 1, 3) := by decide +kernel
theorem dX5_shift_97 : decode cX5_shift 97 = .ok (.goto (-23), 3) := by decide +kernel
theorem dX5_shift_100 : decode cX5_shift 100 = .ok (.iinc 7 1, 3) := by decide +kernel
theorem dX5_shift_103 : decode cX5_shift 103 = .ok (.goto (-51), 3) := by decide +kernel
theorem dX5_shift_106 : decode cX5_shift 106 = .ok (.return_, 1) := by decide +kernel
set_option maxRecDepth 20000 in
theorem ggX5_shiftOne_X5_isThin : GoodIn wsX5_shiftOne wsX5_isThin := goodIn_r _ [8, 1, 9, 21, 22, 23, 24, 25, 26, 27, 28] (by decide +kernel) (by decide +kernel)
set_option maxRecDepth 20000 in
theorem gX5_shiftOne_X5_isThin : GoodIn wsX5_shiftOne (wsV RX5 55 RX5 yX5_isThin wsX5_isThin) := goodIn_app (goodIn_of _ (by decide +kernel)) ggX5_shiftOne_X5_isThin
set_option maxRecDepth 20000 in
theorem ggX5_shiftOne_X5_isFull : GoodIn wsX5_shiftOne wsX5_isFull := goodIn_r _ [13, 1, 14, 21, 22, 23, 24, 25, 26, 27, 28] (by decide +kernel) (by decide +kernel)
set_option maxRecDepth 20000 in
theorem gX5_shiftOne_X5_isFull : GoodIn wsX5_shiftOne (wsV RX5 62 RX5 yX5_isFull wsX5_isFull) := goodIn_app (goodIn_of _ (by decide +kernel)) ggX5_shiftOne_X5_isFull
set_option maxRecDepth 20000 in
theorem ggX5_shiftOne_X5_spread : GoodIn wsX5_shiftOne wsX5_spread := goodIn_r _ [18, 19, 20, 21, 22, 23, 24, 25, 26, 27, 28] (by decide +kernel) (by decide +kernel)
set_option maxRecDepth 20000 in
theorem gX5_shiftOne_X5_spread : GoodIn wsX5_shiftOne (wsV RX5 58 RX5 yX5_spread wsX5_spread) := goodIn_app (goodIn_of _ (by decide +kernel)) ggX5_shiftOne_X5_spread
theorem dX5_shiftOne_0 : decode cX5_shiftOne 0 = .ok (.aload_n 0, 1) := by decide +kernel
theorem dX5_shiftOne_1 : decode cX5_shiftOne 1 = .ok (.iload_n 1, 1) := by decide +kernel
theorem dX5_shiftOne_2 : decode cX5_shiftOne 2 = .ok (.invokevirtual 55, 3) := by decide +kernel
theorem dX5_shiftOne_5 : decode cX5_shiftOne 5 = .ok (.istore_n 3, 1) := by decide +kernel
theorem dX5_shiftOne_6 : decode cX5_shiftOne 6 = .ok (.aload_n 0, 1) := by decide +kernel
theorem dX5_shiftOne_7 : decode cX5_shiftOne 7 = .ok (.iload_n 1, 1) := by decide +kernel
theorem dX5_shiftOne_8 : decode cX5_shiftOne 8 = .ok (.invokevirtual 62, 3) := by decide +kernel
theorem dX5_shiftOne_11 : decode cX5_shiftOne 11 = .ok (.istore 4, 2) := by decide +kernel
theorem dX5_shiftOne_13 : decode cX5_shiftOne 13 = .ok (.aload_n 0, 1) := by decide +kernel
theorem dX5_shiftOne_14 : decode cX5_shiftOne 14 = .ok (.getfield 24, 3) := by decide +kernel
theorem dX5_shiftOne_17 : decode cX5_shiftOne 17 = .ok (.iload_n 1, 1) := by decide +kernel
theorem dX5_shiftOne_18 : decode cX5_shiftOne 18 = .ok (.dup2, 1) := by decide +kernel
theorem dX5_shiftOne_19 : decode cX5_shiftOne 19 = .ok (.iaload, 1) := by decide +kernel
theorem dX5_shiftOne_20 : decode cX5_shiftOne 20 = .ok (.iload_n 2, 1) := by decide +kernel
theorem dX5_shiftOne_21 : decode cX5_shiftOne 21 = .ok (.iadd, 1) := by decide +kernel
theorem dX5_shiftOne_22 : decode cX5_shiftOne 22 = .ok (.iastore, 1) := by decide +kernel
theorem dX5_shiftOne_23 : decode cX5_shiftOne 23 = .ok (.iload_n 3, 1) := by decide +kernel
theorem dX5_shiftOne_24 : decode cX5_shiftOne 24 = .ok (.aload_n 0, 1) := by decide +kernel
theorem dX5_shiftOne_25 : decode cX5_shiftOne 25 = .ok (.iload_n 1, 1) := by decide +kernel
theorem dX5_shiftOne_26 : decode cX5_shiftOne 26 = .ok (.invokevirtual 55, 3) := by decide +kernel
theorem dX5_shiftOne_29 : decode cX5_shiftOne 29 = .ok (.if_icmp .eq 21, 3) := by decide +kernel
theorem dX5_shiftOne_32 : decode cX5_shiftOne 32 = .ok (.aload_n 0, 1) := by decide +kernel
theorem dX5_shiftOne_33 : decode cX5_shiftOne 33 = .ok (.aload_n 0, 1) := by decide +kernel
theorem dX5_shiftOne_34 : decode cX5_shiftOne 34 = .ok (.getfield 28, 3) := by decide +kernel
theorem dX5_shiftOne_37 : decode cX5_shiftOne 37 = .ok (.iload_n 1, 1) := by decide +kernel
theorem dX5_shiftOne_38 : decode cX5_shiftOne 38 = .ok (.iload_n 3, 1) := by decide +kernel
theorem dX5_shiftOne_39 : decode cX5_shiftOne 39 = .ok (.ifCond .eq 7, 3) := by decide +kernel
theorem dX5_shiftOne_42 : decode cX5_shiftOne 42 = .ok (.iconst (-1), 1) := by decide +kernel
theorem dX5_shiftOne_43 : decode cX5_shiftOne 43 = .ok (.goto 4, 3) := by decide +kernel
theorem dX5_shiftOne_46 : decode cX5_shiftOne 46 = .ok (.iconst 1, 1) := by decide +kernel
theorem dX5_shiftOne_47 : decode cX5_shiftOne 47 = .ok (.invokevirtual 58, 3) := by decide +kernel
theorem dX5_shiftOne_50 : decode cX5_shiftOne 50 = .ok (.iload 4, 2) := by decide +kernel
theorem dX5_shiftOne_52 : decode cX5_shiftOne 52 = .ok (.aload_n 0, 1) := by decide +kernel
theorem dX5_shiftOne_53 : decode cX5_shiftOne 53 = .ok (.iload_n 1, 1) := by decide +kernel
theorem dX5_shiftOne_54 : decode cX5_shiftOne 54 = .ok (.invokevirtual 62, 3) := by decide +kernel
theorem dX5_shiftOne_57 : decode cX5_shiftOne 57 = .ok (.if_icmp .eq 22, 3) := by decide +kernel
theorem dX5_shiftOne_60 : decode cX5_shiftOne 60 = .ok (.aload_n 0, 1) := by decide +kernel
theorem dX5_shiftOne_61 : decode cX5_shiftOne 61 = .ok (.aload_n 0, 1) := by decide +kernel
theorem dX5_shiftOne_62 : decode cX5_shiftOne 62 = .ok (.getfield 31, 3) := by decide +kernel
theorem dX5_shiftOne_65 : decode cX5_shiftOne 65 = .ok (.iload_n 1, 1) := by decide +kernel
theorem dX5_shiftOne_66 : decode cX5_shiftOne 66 = .ok (.iload 4, 2) := by decide +kernel
theorem dX5_shiftOne_68 : decode cX5_shiftOne 68 = .ok (.ifCond .eq 7, 3) := by decide +kernel
theorem dX5_shiftOne_71 : decode cX5_shiftOne 71 = .ok (.iconst (-1), 1) := by decide +kernel
theorem dX5_shiftOne_72 : decode cX5_shiftOne 72 = .ok (.goto 4, 3) := by decide +kernel
theorem dX5_shiftOne_75 : decode cX5_shiftOne 75 = .ok (.iconst 1, 1) := by decide +kernel
theorem dX5_shiftOne_76 : decode cX5_shiftOne 76 = .ok (.invokevirtual 58, 3) := by decide +kernel
theorem dX5_shiftOne_79 : decode cX5_shiftOne 79 = .ok (.return_, 1) := by decide +kernel
theorem dX5_bearTwins_0 : decode cX5_bearTwins 0 = .ok (.iconst 0, 1) := by decide +kernel
theorem dX5_bearTwins_1 : decode cX5_bearTwins 1 = .ok (.istore_n 2, 1) := by decide +kernel
theorem dX5_bearTwins_2 : decode cX5_bearTwins 2 = .ok (.iload_n 2, 1) := by decide +kernel
theorem dX5_bearTwins_3 : decode cX5_bearTwins 3 = .ok (.bipush 80, 2) := by decide +kernel
theorem dX5_bearTwins_5 : decode cX5_bearTwins 5 = .ok (.if_icmp .ge 42, 3) := by decide +kernel
theorem dX5_bearTwins_8 : decode cX5_bearTwins 8 = .ok (.aload_n 0, 1) := by decide +kernel
theorem dX5_bearTwins_9 : decode cX5_bearTwins 9 = .ok (.getfield 34, 3) := by decide +kernel
theorem dX5_bearTwins_12 : decode cX5_bearTwins 12 = .ok (.bipush 80, 2) := by decide +kernel
theorem dX5_bearTwins_14 : decode cX5_bearTwins 14 = .ok (.iload_n 1, 1) := by decide +kernel
theorem dX5_bearTwins_15 : decode cX5_bearTwins 15 = .ok (.imul, 1) := by decide +kernel
theorem dX5_bearTwins_16 : decode cX5_bearTwins 16 = .ok (.iload_n 2, 1) := by decide +kernel
theorem dX5_bearTwins_17 : decode cX5_bearTwins 17 = .ok (.iadd, 1) := by decide +kernel
theorem dX5_bearTwins_18 : decode cX5_bearTwins 18 = .ok (.iaload, 1) := by decide +kernel
theorem dX5_bearTwins_19 : decode cX5_bearTwins 19 = .ok (.istore_n 3, 1) := by decide +kernel
theorem dX5_bearTwins_20 : decode cX5_bearTwins 20 = .ok (.iload_n 3, 1) := by decide +kernel
theorem dX5_bearTwins_21 : decode cX5_bearTwins 21 = .ok (.ifCond .le 20, 3) := by decide +kernel
theorem dX5_bearTwins_24 : decode cX5_bearTwins 24 = .ok (.aload_n 0, 1) := by decide +kernel
theorem dX5_bearTwins_25 : decode cX5_bearTwins 25 = .ok (.getfield 24, 3) := by decide +kernel
theorem dX5_bearTwins_28 : decode cX5_bearTwins 28 = .ok (.iload_n 2, 1) := by decide +kernel
theorem dX5_bearTwins_29 : decode cX5_bearTwins 29 = .ok (.iaload, 1) := by decide +kernel
theorem dX5_bearTwins_30 : decode cX5_bearTwins 30 = .ok (.iload_n 3, 1) := by decide +kernel
theorem dX5_bearTwins_31 : decode cX5_bearTwins 31 = .ok (.iadd, 1) := by decide +kernel
theorem dX5_bearTwins_32 : decode cX5_bearTwins 32 = .ok (.aload_n 0, 1) := by decide +kernel
theorem dX5_bearTwins_33 : decode cX5_bearTwins 33 = .ok (.getfield 21, 3) := by decide +kernel
theorem dX5_bearTwins_36 : decode cX5_bearTwins 36 = .ok (.if_icmp .le 5, 3) := by decide +kernel
theorem dX5_bearTwins_39 : decode cX5_bearTwins 39 = .ok (.iconst 0, 1) := by decide +kernel
theorem dX5_bearTwins_40 : decode cX5_bearTwins 40 = .ok (.ireturn, 1) := by decide +kernel
theorem dX5_bearTwins_41 : decode cX5_bearTwins 41 = .ok (.iinc 2 1, 3) := by decide +kernel
theorem dX5_bearTwins_44 : decode cX5_bearTwins 44 = .ok (.goto (-42), 3) := by decide +kernel
theorem dX5_bearTwins_47 : decode cX5_bearTwins 47 = .ok (.iconst 1, 1) := by decide +kernel
theorem dX5_bearTwins_48 : decode cX5_bearTwins 48 = .ok (.ireturn, 1) := by decide +kernel
set_option maxRecDepth 20000 in
theorem ggX5_slack_X5_share : GoodIn wsX5_slack wsX5_share := goodIn_r _ [11, 12, 13, 14, 15, 10, 16, 17, 18, 19, 20, 21, 22, 23, 24, 25, 26] (by decide +kernel) (by decide +kernel)
set_option maxRecDepth 20000 in
theorem gX5_slack_X5_share : GoodIn wsX5_slack (wsV RX5 87 RX5 yX5_share wsX5_share) := goodIn_app (goodIn_of _ (by decide +kernel)) ggX5_slack_X5_share
theorem dX5_slack_0 : decode cX5_slack 0 = .ok (.bipush 9, 2) := by decide +kernel
theorem dX5_slack_2 : decode cX5_slack 2 = .ok (.istore_n 3, 1) := by decide +kernel
theorem dX5_slack_3 : decode cX5_slack 3 = .ok (.iconst 0, 1) := by decide +kernel
theorem dX5_slack_4 : decode cX5_slack 4 = .ok (.istore 4, 2) := by decide +kernel
theorem dX5_slack_6 : decode cX5_slack 6 = .ok (.iload 4, 2) := by decide +kernel
theorem dX5_slack_8 : decode cX5_slack 8 = .ok (.bipush 80, 2) := by decide +kernel
theorem dX5_slack_10 : decode cX5_slack 10 = .ok (.if_icmp .ge 69, 3) := by decide +kernel
theorem dX5_slack_13 : decode cX5_slack 13 = .ok (.aload_n 0, 1) := by decide +kernel
theorem dX5_slack_14 : decode cX5_slack 14 = .ok (.getfield 24, 3) := by decide +kernel
theorem dX5_slack_17 : decode cX5_slack 17 = .ok (.iload 4, 2) := by decide +kernel
theorem dX5_slack_19 : decode cX5_slack 19 = .ok (.iaload, 1) := by decide +kernel
theorem dX5_slack_20 : decode cX5_slack 20 = .ok (.iconst (-1), 1) := by decide +kernel
theorem dX5_slack_21 : decode cX5_slack 21 = .ok (.if_icmp .eq 52, 3) := by decide +kernel
theorem dX5_slack_24 : decode cX5_slack 24 = .ok (.aload_n 0, 1) := by decide +kernel
theorem dX5_slack_25 : decode cX5_slack 25 = .ok (.getfield 24, 3) := by decide +kernel
theorem dX5_slack_28 : decode cX5_slack 28 = .ok (.iload 4, 2) := by decide +kernel
theorem dX5_slack_30 : decode cX5_slack 30 = .ok (.iaload, 1) := by decide +kernel
theorem dX5_slack_31 : decode cX5_slack 31 = .ok (.aload_n 0, 1) := by decide +kernel
theorem dX5_slack_32 : decode cX5_slack 32 = .ok (.getfield 18, 3) := by decide +kernel
theorem dX5_slack_35 : decode cX5_slack 35 = .ok (.if_icmp .lt 38, 3) := by decide +kernel
theorem dX5_slack_38 : decode cX5_slack 38 = .ok (.aload_n 0, 1) := by decide +kernel
theorem dX5_slack_39 : decode cX5_slack 39 = .ok (.iload 4, 2) := by decide +kernel
theorem dX5_slack_41 : decode cX5_slack 41 = .ok (.iload_n 1, 1) := by decide +kernel
theorem dX5_slack_42 : decode cX5_slack 42 = .ok (.iload_n 2, 1) := by decide +kernel
theorem dX5_slack_43 : decode cX5_slack 43 = .ok (.invokevirtual 87, 3) := by decide +kernel
theorem dX5_slack_46 : decode cX5_slack 46 = .ok (.istore 5, 2) := by decide +kernel
theorem dX5_slack_48 : decode cX5_slack 48 = .ok (.iload 5, 2) := by decide +kernel
theorem dX5_slack_50 : decode cX5_slack 50 = .ok (.ifCond .le 23, 3) := by decide +kernel
theorem dX5_slack_53 : decode cX5_slack 53 = .ok (.iload_n 3, 1) := by decide +kernel
theorem dX5_slack_54 : decode cX5_slack 54 = .ok (.aload_n 0, 1) := by decide +kernel
theorem dX5_slack_55 : decode cX5_slack 55 = .ok (.getfield 24, 3) := by decide +kernel
theorem dX5_slack_58 : decode cX5_slack 58 = .ok (.iload 4, 2) := by decide +kernel
theorem dX5_slack_60 : decode cX5_slack 60 = .ok (.iaload, 1) := by decide +kernel
theorem dX5_slack_61 : decode cX5_slack 61 = .ok (.aload_n 0, 1) := by decide +kernel
theorem dX5_slack_62 : decode cX5_slack 62 = .ok (.getfield 18, 3) := by decide +kernel
theorem dX5_slack_65 : decode cX5_slack 65 = .ok (.isub, 1) := by decide +kernel
theorem dX5_slack_66 : decode cX5_slack 66 = .ok (.iload 5, 2) := by decide +kernel
theorem dX5_slack_68 : decode cX5_slack 68 = .ok (.idiv, 1) := by decide +kernel
theorem dX5_slack_69 : decode cX5_slack 69 = .ok (.invokestatic 74, 3) := by decide +kernel
theorem dX5_slack_72 : decode cX5_slack 72 = .ok (.istore_n 3, 1) := by decide +kernel
theorem dX5_slack_73 : decode cX5_slack 73 = .ok (.iinc 4 1, 3) := by decide +kernel
theorem dX5_slack_76 : decode cX5_slack 76 = .ok (.goto (-70), 3) := by decide +kernel
theorem dX5_slack_79 : decode cX5_slack 79 = .ok (.iload_n 3, 1) := by decide +kernel
theorem dX5_slack_80 : decode cX5_slack 80 = .ok (.ireturn, 1) := by decide +kernel
theorem dX5_count_0 : decode cX5_count 0 = .ok (.bipush 8, 2) := by decide +kernel
theorem dX5_count_2 : decode cX5_count 2 = .ok (.aload_n 0, 1) := by decide +kernel
theorem dX5_count_3 : decode cX5_count 3 = .ok (.getfield 9, 3) := by decide +kernel
theorem dX5_count_6 : decode cX5_count 6 = .ok (.isub, 1) := by decide +kernel
theorem dX5_count_7 : decode cX5_count 7 = .ok (.iconst 1, 1) := by decide +kernel
theorem dX5_count_8 : decode cX5_count 8 = .ok (.iadd, 1) := by decide +kernel
theorem dX5_count_9 : decode cX5_count 9 = .ok (.bipush 10, 2) := by decide +kernel
theorem dX5_count_11 : decode cX5_count 11 = .ok (.aload_n 0, 1) := by decide +kernel
theorem dX5_count_12 : decode cX5_count 12 = .ok (.getfield 15, 3) := by decide +kernel
theorem dX5_count_15 : decode cX5_count 15 = .ok (.isub, 1) := by decide +kernel
theorem dX5_count_16 : decode cX5_count 16 = .ok (.iconst 1, 1) := by decide +kernel
theorem dX5_count_17 : decode cX5_count 17 = .ok (.iadd, 1) := by decide +kernel
theorem dX5_count_18 : decode cX5_count 18 = .ok (.imul, 1) := by decide +kernel
theorem dX5_count_19 : decode cX5_count 19 = .ok (.ireturn, 1) := by decide +kernel
set_option maxRecDepth 20000 in
theorem ggX5_countThin_X5_isThin : GoodIn wsX5_countThin wsX5_isThin := goodIn_r _ [5, 6, 7, 8, 9, 10, 11, 12, 13, 14, 15] (by decide +kernel) (by decide +kernel)
set_option maxRecDepth 20000 in
theorem gX5_countThin_X5_isThin : GoodIn wsX5_countThin (wsV RX5 55 RX5 yX5_isThin wsX5_isThin) := goodIn_app (goodIn_of _ (by decide +kernel)) ggX5_countThin_X5_isThin
theorem dX5_countThin_0 : decode cX5_countThin 0 = .ok (.iconst 0, 1) := by decide +kernel
theorem dX5_countThin_1 : decode cX5_countThin 1 = .ok (.istore_n 1, 1) := by decide +kernel
theorem dX5_countThin_2 : decode cX5_countThin 2 = .ok (.iconst 0, 1) := by decide +kernel
theorem dX5_countThin_3 : decode cX5_countThin 3 = .ok (.istore_n 2, 1) := by decide +kernel
theorem dX5_countThin_4 : decode cX5_countThin 4 = .ok (.iload_n 2, 1) := by decide +kernel
theorem dX5_countThin_5 : decode cX5_countThin 5 = .ok (.bipush 80, 2) := by decide +kernel
theorem dX5_countThin_7 : decode cX5_countThin 7 = .ok (.if_icmp .ge 20, 3) := by decide +kernel
theorem dX5_countThin_10 : decode cX5_countThin 10 = .ok (.aload_n 0, 1) := by decide +kernel
theorem dX5_countThin_11 : decode cX5_countThin 11 = .ok (.iload_n 2, 1) := by decide +kernel
theorem dX5_countThin_12 : decode cX5_countThin 12 = .ok (.invokevirtual 55, 3) := by decide +kernel
theorem dX5_countThin_15 : decode cX5_countThin 15 = .ok (.ifCond .eq 6, 3) := by decide +kernel
theorem dX5_countThin_18 : decode cX5_countThin 18 = .ok (.iinc 1 1, 3) := by decide +kernel
theorem dX5_countThin_21 : decode cX5_countThin 21 = .ok (.iinc 2 1, 3) := by decide +kernel
theorem dX5_countThin_24 : decode cX5_countThin 24 = .ok (.goto (-20), 3) := by decide +kernel
theorem dX5_countThin_27 : decode cX5_countThin 27 = .ok (.iload_n 1, 1) := by decide +kernel
theorem dX5_countThin_28 : decode cX5_countThin 28 = .ok (.ireturn, 1) := by decide +kernel
theorem dX5_countThick_0 : decode cX5_countThick 0 = .ok (.iconst 0, 1) := by decide +kernel
theorem dX5_countThick_1 : decode cX5_countThick 1 = .ok (.istore_n 1, 1) := by decide +kernel
theorem dX5_countThick_2 : decode cX5_countThick 2 = .ok (.iconst 0, 1) := by decide +kernel
theorem dX5_countThick_3 : decode cX5_countThick 3 = .ok (.istore_n 2, 1) := by decide +kernel
theorem dX5_countThick_4 : decode cX5_countThick 4 = .ok (.iload_n 2, 1) := by decide +kernel
theorem dX5_countThick_5 : decode cX5_countThick 5 = .ok (.bipush 80, 2) := by decide +kernel
theorem dX5_countThick_7 : decode cX5_countThick 7 = .ok (.if_icmp .ge 25, 3) := by decide +kernel
theorem dX5_countThick_10 : decode cX5_countThick 10 = .ok (.aload_n 0, 1) := by decide +kernel
theorem dX5_countThick_11 : decode cX5_countThick 11 = .ok (.getfield 24, 3) := by decide +kernel
theorem dX5_countThick_14 : decode cX5_countThick 14 = .ok (.iload_n 2, 1) := by decide +kernel
theorem dX5_countThick_15 : decode cX5_countThick 15 = .ok (.iaload, 1) := by decide +kernel
theorem dX5_countThick_16 : decode cX5_countThick 16 = .ok (.aload_n 0, 1) := by decide +kernel
theorem dX5_countThick_17 : decode cX5_countThick 17 = .ok (.getfield 21, 3) := by decide +kernel
theorem dX5_countThick_20 : decode cX5_countThick 20 = .ok (.if_icmp .le 6, 3) := by decide +kernel
theorem dX5_countThick_23 : decode cX5_countThick 23 = .ok (.iinc 1 1, 3) := by decide +kernel
theorem dX5_countThick_26 : decode cX5_countThick 26 = .ok (.iinc 2 1, 3) := by decide +kernel
theorem dX5_countThick_29 : decode cX5_countThick 29 = .ok (.goto (-25), 3) := by decide +kernel
theorem dX5_countThick_32 : decode cX5_countThick 32 = .ok (.iload_n 1, 1) := by decide +kernel
theorem dX5_countThick_33 : decode cX5_countThick 33 = .ok (.ireturn, 1) := by decide +kernel
theorem dX5_countOf_0 : decode cX5_countOf 0 = .ok (.iconst 0, 1) := by decide +kernel
theorem dX5_countOf_1 : decode cX5_countOf 1 = .ok (.istore_n 2, 1) := by decide +kernel
theorem dX5_countOf_2 : decode cX5_countOf 2 = .ok (.iconst 0, 1) := by decide +kernel
theorem dX5_countOf_3 : decode cX5_countOf 3 = .ok (.istore_n 3, 1) := by decide +kernel
theorem dX5_countOf_4 : decode cX5_countOf 4 = .ok (.iload_n 3, 1) := by decide +kernel
theorem dX5_countOf_5 : decode cX5_countOf 5 = .ok (.bipush 80, 2) := by decide +kernel
theorem dX5_countOf_7 : decode cX5_countOf 7 = .ok (.if_icmp .ge 22, 3) := by decide +kernel
theorem dX5_countOf_10 : decode cX5_countOf 10 = .ok (.aload_n 0, 1) := by decide +kernel
theorem dX5_countOf_11 : decode cX5_countOf 11 = .ok (.getfield 24, 3) := by decide +kernel
theorem dX5_countOf_14 : decode cX5_countOf 14 = .ok (.iload_n 3, 1) := by decide +kernel
theorem dX5_countOf_15 : decode cX5_countOf 15 = .ok (.iaload, 1) := by decide +kernel
theorem dX5_countOf_16 : decode cX5_countOf 16 = .ok (.iload_n 1, 1) := by decide +kernel
theorem dX5_countOf_17 : decode cX5_countOf 17 = .ok (.if_icmp .ne 6, 3) := by decide +kernel
theorem dX5_countOf_20 : decode cX5_countOf 20 = .ok (.iinc 2 1, 3) := by decide +kernel
theorem dX5_countOf_23 : decode cX5_countOf 23 = .ok (.iinc 3 1, 3) := by decide +kernel
theorem dX5_countOf_26 : decode cX5_countOf 26 = .ok (.goto (-22), 3) := by decide +kernel
theorem dX5_countOf_29 : decode cX5_countOf 29 = .ok (.iload_n 2, 1) := by decide +kernel
theorem dX5_countOf_30 : decode cX5_countOf 30 = .ok (.ireturn, 1) := by decide +kernel
theorem dX5_sumAbove_0 : decode cX5_sumAbove 0 = .ok (.iconst (-1), 1) := by decide +kernel
theorem dX5_sumAbove_1 : decode cX5_sumAbove 1 = .ok (.istore_n 2, 1) := by decide +kernel
theorem dX5_sumAbove_2 : decode cX5_sumAbove 2 = .ok (.iconst 0, 1) := by decide +kernel
theorem dX5_sumAbove_3 : decode cX5_sumAbove 3 = .ok (.istore_n 3, 1) := by decide +kernel
theorem dX5_sumAbove_4 : decode cX5_sumAbove 4 = .ok (.iload_n 3, 1) := by decide +kernel
theorem dX5_sumAbove_5 : decode cX5_sumAbove 5 = .ok (.bipush 80, 2) := by decide +kernel
theorem dX5_sumAbove_7 : decode cX5_sumAbove 7 = .ok (.if_icmp .ge 41, 3) := by decide +kernel
theorem dX5_sumAbove_10 : decode cX5_sumAbove 10 = .ok (.aload_n 0, 1) := by decide +kernel
theorem dX5_sumAbove_11 : decode cX5_sumAbove 11 = .ok (.getfield 24, 3) := by decide +kernel
theorem dX5_sumAbove_14 : decode cX5_sumAbove 14 = .ok (.iload_n 3, 1) := by decide +kernel
theorem dX5_sumAbove_15 : decode cX5_sumAbove 15 = .ok (.iaload, 1) := by decide +kernel
theorem dX5_sumAbove_16 : decode cX5_sumAbove 16 = .ok (.iload_n 1, 1) := by decide +kernel
theorem dX5_sumAbove_17 : decode cX5_sumAbove 17 = .ok (.if_icmp .le 25, 3) := by decide +kernel
theorem dX5_sumAbove_20 : decode cX5_sumAbove 20 = .ok (.iload_n 2, 1) := by decide +kernel
theorem dX5_sumAbove_21 : decode cX5_sumAbove 21 = .ok (.iconst (-1), 1) := by decide +kernel
theorem dX5_sumAbove_22 : decode cX5_sumAbove 22 = .ok (.if_icmp .eq 13, 3) := by decide +kernel
theorem dX5_sumAbove_25 : decode cX5_sumAbove 25 = .ok (.aload_n 0, 1) := by decide +kernel
theorem dX5_sumAbove_26 : decode cX5_sumAbove 26 = .ok (.getfield 24, 3) := by decide +kernel
theorem dX5_sumAbove_29 : decode cX5_sumAbove 29 = .ok (.iload_n 3, 1) := by decide +kernel
theorem dX5_sumAbove_30 : decode cX5_sumAbove 30 = .ok (.iaload, 1) := by decide +kernel
theorem dX5_sumAbove_31 : decode cX5_sumAbove 31 = .ok (.iload_n 2, 1) := by decide +kernel
theorem dX5_sumAbove_32 : decode cX5_sumAbove 32 = .ok (.if_icmp .ge 10, 3) := by decide +kernel
theorem dX5_sumAbove_35 : decode cX5_sumAbove 35 = .ok (.aload_n 0, 1) := by decide +kernel
theorem dX5_sumAbove_36 : decode cX5_sumAbove 36 = .ok (.getfield 24, 3) := by decide +kernel
theorem dX5_sumAbove_39 : decode cX5_sumAbove 39 = .ok (.iload_n 3, 1) := by decide +kernel
theorem dX5_sumAbove_40 : decode cX5_sumAbove 40 = .ok (.iaload, 1) := by decide +kernel
theorem dX5_sumAbove_41 : decode cX5_sumAbove 41 = .ok (.istore_n 2, 1) := by decide +kernel
theorem dX5_sumAbove_42 : decode cX5_sumAbove 42 = .ok (.iinc 3 1, 3) := by decide +kernel
theorem dX5_sumAbove_45 : decode cX5_sumAbove 45 = .ok (.goto (-41), 3) := by decide +kernel
theorem dX5_sumAbove_48 : decode cX5_sumAbove 48 = .ok (.iload_n 2, 1) := by decide +kernel
theorem dX5_sumAbove_49 : decode cX5_sumAbove 49 = .ok (.ireturn, 1) := by decide +kernel
set_option maxRecDepth 20000 in
theorem ggX5_countUnlike_X5_sumAbove : GoodIn wsX5_countUnlike wsX5_sumAbove := goodIn_r _ [5, 6, 7, 8, 9, 10, 11, 12, 13, 14] (by decide +kernel) (by decide +kernel)
set_option maxRecDepth 20000 in
theorem gX5_countUnlike_X5_sumAbove : GoodIn wsX5_countUnlike (wsV RX5 91 RX5 yX5_sumAbove wsX5_sumAbove) := goodIn_app (goodIn_of _ (by decide +kernel)) ggX5_countUnlike_X5_sumAbove
theorem dX5_countUnlike_0 : decode cX5_countUnlike 0 = .ok (.iconst 0, 1) := by decide +kernel
theorem dX5_countUnlike_1 : decode cX5_countUnlike 1 = .ok (.istore_n 1, 1) := by decide +kernel
theorem dX5_countUnlike_2 : decode cX5_countUnlike 2 = .ok (.aload_n 0, 1) := by decide +kernel
theorem dX5_countUnlike_3 : decode cX5_countUnlike 3 = .ok (.iconst (-1), 1) := by decide +kernel
theorem dX5_countUnlike_4 : decode cX5_countUnlike 4 = .ok (.invokevirtual 91, 3) := by decide +kernel
theorem dX5_countUnlike_7 : decode cX5_countUnlike 7 = .ok (.istore_n 2, 1) := by decide +kernel
theorem dX5_countUnlike_8 : decode cX5_countUnlike 8 = .ok (.iload_n 1, 1) := by decide +kernel
theorem dX5_countUnlike_9 : decode cX5_countUnlike 9 = .ok (.bipush 80, 2) := by decide +kernel
theorem dX5_countUnlike_11 : decode cX5_countUnlike 11 = .ok (.if_icmp .ge 20, 3) := by decide +kernel
theorem dX5_countUnlike_14 : decode cX5_countUnlike 14 = .ok (.iload_n 2, 1) := by decide +kernel
theorem dX5_countUnlike_15 : decode cX5_countUnlike 15 = .ok (.iconst (-1), 1) := by decide +kernel
theorem dX5_countUnlike_16 : decode cX5_countUnlike 16 = .ok (.if_icmp .eq 15, 3) := by decide +kernel
theorem dX5_countUnlike_19 : decode cX5_countUnlike 19 = .ok (.iinc 1 1, 3) := by decide +kernel
theorem dX5_countUnlike_22 : decode cX5_countUnlike 22 = .ok (.aload_n 0, 1) := by decide +kernel
theorem dX5_countUnlike_23 : decode cX5_countUnlike 23 = .ok (.iload_n 2, 1) := by decide +kernel
theorem dX5_countUnlike_24 : decode cX5_countUnlike 24 = .ok (.invokevirtual 91, 3) := by decide +kernel
theorem dX5_countUnlike_27 : decode cX5_countUnlike 27 = .ok (.istore_n 2, 1) := by decide +kernel
theorem dX5_countUnlike_28 : decode cX5_countUnlike 28 = .ok (.goto (-20), 3) := by decide +kernel
theorem dX5_countUnlike_31 : decode cX5_countUnlike 31 = .ok (.iload_n 1, 1) := by decide +kernel
theorem dX5_countUnlike_32 : decode cX5_countUnlike 32 = .ok (.ireturn, 1) := by decide +kernel
set_option maxRecDepth 20000 in
theorem ggX5_unlikeSum_X5_sumAbove : GoodIn wsX5_unlikeSum wsX5_sumAbove := goodIn_r _ [5, 6, 7, 8, 9, 10, 11, 12, 13, 14] (by decide +kernel) (by decide +kernel)
set_option maxRecDepth 20000 in
theorem gX5_unlikeSum_X5_sumAbove : GoodIn wsX5_unlikeSum (wsV RX5 91 RX5 yX5_sumAbove wsX5_sumAbove) := goodIn_app (goodIn_of _ (by decide +kernel)) ggX5_unlikeSum_X5_sumAbove
theorem dX5_unlikeSum_0 : decode cX5_unlikeSum 0 = .ok (.iload_n 1, 1) := by decide +kernel
theorem dX5_unlikeSum_1 : decode cX5_unlikeSum 1 = .ok (.bipush 80, 2) := by decide +kernel
theorem dX5_unlikeSum_3 : decode cX5_unlikeSum 3 = .ok (.if_icmp .lt 5, 3) := by decide +kernel
theorem dX5_unlikeSum_6 : decode cX5_unlikeSum 6 = .ok (.iconst (-1), 1) := by decide +kernel
theorem dX5_unlikeSum_7 : decode cX5_unlikeSum 7 = .ok (.ireturn, 1) := by decide +kernel
theorem dX5_unlikeSum_8 : decode cX5_unlikeSum 8 = .ok (.aload_n 0, 1) := by decide +kernel
theorem dX5_unlikeSum_9 : decode cX5_unlikeSum 9 = .ok (.iconst (-1), 1) := by decide +kernel
theorem dX5_unlikeSum_10 : decode cX5_unlikeSum 10 = .ok (.invokevirtual 91, 3) := by decide +kernel
theorem dX5_unlikeSum_13 : decode cX5_unlikeSum 13 = .ok (.istore_n 2, 1) := by decide +kernel
theorem dX5_unlikeSum_14 : decode cX5_unlikeSum 14 = .ok (.iconst 0, 1) := by decide +kernel
theorem dX5_unlikeSum_15 : decode cX5_unlikeSum 15 = .ok (.istore_n 3, 1) := by decide +kernel
theorem dX5_unlikeSum_16 : decode cX5_unlikeSum 16 = .ok (.iload_n 3, 1) := by decide +kernel
theorem dX5_unlikeSum_17 : decode cX5_unlikeSum 17 = .ok (.iload_n 1, 1) := by decide +kernel
theorem dX5_unlikeSum_18 : decode cX5_unlikeSum 18 = .ok (.if_icmp .ge 20, 3) := by decide +kernel
theorem dX5_unlikeSum_21 : decode cX5_unlikeSum 21 = .ok (.iload_n 2, 1) := by decide +kernel
theorem dX5_unlikeSum_22 : decode cX5_unlikeSum 22 = .ok (.iconst (-1), 1) := by decide +kernel
theorem dX5_unlikeSum_23 : decode cX5_unlikeSum 23 = .ok (.if_icmp .eq 15, 3) := by decide +kernel
theorem dX5_unlikeSum_26 : decode cX5_unlikeSum 26 = .ok (.aload_n 0, 1) := by decide +kernel
theorem dX5_unlikeSum_27 : decode cX5_unlikeSum 27 = .ok (.iload_n 2, 1) := by decide +kernel
theorem dX5_unlikeSum_28 : decode cX5_unlikeSum 28 = .ok (.invokevirtual 91, 3) := by decide +kernel
theorem dX5_unlikeSum_31 : decode cX5_unlikeSum 31 = .ok (.istore_n 2, 1) := by decide +kernel
theorem dX5_unlikeSum_32 : decode cX5_unlikeSum 32 = .ok (.iinc 3 1, 3) := by decide +kernel
theorem dX5_unlikeSum_35 : decode cX5_unlikeSum 35 = .ok (.goto (-19), 3) := by decide +kernel
theorem dX5_unlikeSum_38 : decode cX5_unlikeSum 38 = .ok (.iload_n 2, 1) := by decide +kernel
theorem dX5_unlikeSum_39 : decode cX5_unlikeSum 39 = .ok (.ireturn, 1) := by decide +kernel
set_option maxRecDepth 20000 in
theorem ggX5_rising_X5_sumAbove : GoodIn wsX5_rising wsX5_sumAbove := goodIn_r _ [5, 6, 15, 16, 17, 18, 19, 20, 21, 22] (by decide +kernel) (by decide +kernel)
set_option maxRecDepth 20000 in
theorem gX5_rising_X5_sumAbove : GoodIn wsX5_rising (wsV RX5 91 RX5 yX5_sumAbove wsX5_sumAbove) := goodIn_app (goodIn_of _ (by decide +kernel)) ggX5_rising_X5_sumAbove
set_option maxRecDepth 20000 in
theorem ggX5_rising_X5_countOf : GoodIn wsX5_rising wsX5_countOf := goodIn_r _ [10, 6, 15, 16, 17, 18, 19, 20, 21, 22] (by decide +kernel) (by decide +kernel)
set_option maxRecDepth 20000 in
theorem gX5_rising_X5_countOf : GoodIn wsX5_rising (wsV RX5 94 RX5 yX5_countOf wsX5_countOf) := goodIn_app (goodIn_of _ (by decide +kernel)) ggX5_rising_X5_countOf
set_option maxRecDepth 20000 in
theorem ggX5_rising_X5_likeOne : GoodIn wsX5_rising wsX5_likeOne := goodIn_r _ [14, 6, 15, 16, 17, 18, 19, 20, 21, 22] (by decide +kernel) (by decide +kernel)
set_option maxRecDepth 20000 in
theorem gX5_rising_X5_likeOne : GoodIn wsX5_rising (wsV RX5 97 RX5 yX5_likeOne wsX5_likeOne) := goodIn_app (goodIn_of _ (by decide +kernel)) ggX5_rising_X5_likeOne
theorem dX5_rising_0 : decode cX5_rising 0 = .ok (.iload_n 1, 1) := by decide +kernel
theorem dX5_rising_1 : decode cX5_rising 1 = .ok (.istore_n 2, 1) := by decide +kernel
theorem dX5_rising_2 : decode cX5_rising 2 = .ok (.aload_n 0, 1) := by decide +kernel
theorem dX5_rising_3 : decode cX5_rising 3 = .ok (.iconst (-1), 1) := by decide +kernel
theorem dX5_rising_4 : decode cX5_rising 4 = .ok (.invokevirtual 91, 3) := by decide +kernel
theorem dX5_rising_7 : decode cX5_rising 7 = .ok (.istore_n 3, 1) := by decide +kernel
theorem dX5_rising_8 : decode cX5_rising 8 = .ok (.iconst 0, 1) := by decide +kernel
theorem dX5_rising_9 : decode cX5_rising 9 = .ok (.istore 4, 2) := by decide +kernel
theorem dX5_rising_11 : decode cX5_rising 11 = .ok (.iload 4, 2) := by decide +kernel
theorem dX5_rising_13 : decode cX5_rising 13 = .ok (.bipush 80, 2) := by decide +kernel
theorem dX5_rising_15 : decode cX5_rising 15 = .ok (.if_icmp .ge 45, 3) := by decide +kernel
theorem dX5_rising_18 : decode cX5_rising 18 = .ok (.iload_n 3, 1) := by decide +kernel
theorem dX5_rising_19 : decode cX5_rising 19 = .ok (.iconst (-1), 1) := by decide +kernel
theorem dX5_rising_20 : decode cX5_rising 20 = .ok (.if_icmp .eq 40, 3) := by decide +kernel
theorem dX5_rising_23 : decode cX5_rising 23 = .ok (.aload_n 0, 1) := by decide +kernel
theorem dX5_rising_24 : decode cX5_rising 24 = .ok (.iload_n 3, 1) := by decide +kernel
theorem dX5_rising_25 : decode cX5_rising 25 = .ok (.invokevirtual 94, 3) := by decide +kernel
theorem dX5_rising_28 : decode cX5_rising 28 = .ok (.istore 5, 2) := by decide +kernel
theorem dX5_rising_30 : decode cX5_rising 30 = .ok (.iload_n 2, 1) := by decide +kernel
theorem dX5_rising_31 : decode cX5_rising 31 = .ok (.iload 5, 2) := by decide +kernel
theorem dX5_rising_33 : decode cX5_rising 33 = .ok (.if_icmp .ge 10, 3) := by decide +kernel
theorem dX5_rising_36 : decode cX5_rising 36 = .ok (.aload_n 0, 1) := by decide +kernel
theorem dX5_rising_37 : decode cX5_rising 37 = .ok (.iload_n 3, 1) := by decide +kernel
theorem dX5_rising_38 : decode cX5_rising 38 = .ok (.iload_n 2, 1) := by decide +kernel
theorem dX5_rising_39 : decode cX5_rising 39 = .ok (.invokevirtual 97, 3) := by decide +kernel
theorem dX5_rising_42 : decode cX5_rising 42 = .ok (.ireturn, 1) := by decide +kernel
theorem dX5_rising_43 : decode cX5_rising 43 = .ok (.iload_n 2, 1) := by decide +kernel
theorem dX5_rising_44 : decode cX5_rising 44 = .ok (.iload 5, 2) := by decide +kernel
theorem dX5_rising_46 : decode cX5_rising 46 = .ok (.isub, 1) := by decide +kernel
theorem dX5_rising_47 : decode cX5_rising 47 = .ok (.istore_n 2, 1) := by decide +kernel
theorem dX5_rising_48 : decode cX5_rising 48 = .ok (.aload_n 0, 1) := by decide +kernel
theorem dX5_rising_49 : decode cX5_rising 49 = .ok (.iload_n 3, 1) := by decide +kernel
theorem dX5_rising_50 : decode cX5_rising 50 = .ok (.invokevirtual 91, 3) := by decide +kernel
theorem dX5_rising_53 : decode cX5_rising 53 = .ok (.istore_n 3, 1) := by decide +kernel
theorem dX5_rising_54 : decode cX5_rising 54 = .ok (.iinc 4 1, 3) := by decide +kernel
theorem dX5_rising_57 : decode cX5_rising 57 = .ok (.goto (-46), 3) := by decide +kernel
theorem dX5_rising_60 : decode cX5_rising 60 = .ok (.iconst (-1), 1) := by decide +kernel
theorem dX5_rising_61 : decode cX5_rising 61 = .ok (.ireturn, 1) := by decide +kernel
theorem dX5_likeOne_0 : decode cX5_likeOne 0 = .ok (.iload_n 2, 1) := by decide +kernel
theorem dX5_likeOne_1 : decode cX5_likeOne 1 = .ok (.istore_n 3, 1) := by decide +kernel
theorem dX5_likeOne_2 : decode cX5_likeOne 2 = .ok (.iconst 0, 1) := by decide +kernel
theorem dX5_likeOne_3 : decode cX5_likeOne 3 = .ok (.istore 4, 2) := by decide +kernel
theorem dX5_likeOne_5 : decode cX5_likeOne 5 = .ok (.iload 4, 2) := by decide +kernel
theorem dX5_likeOne_7 : decode cX5_likeOne 7 = .ok (.bipush 80, 2) := by decide +kernel
theorem dX5_likeOne_9 : decode cX5_likeOne 9 = .ok (.if_icmp .ge 30, 3) := by decide +kernel
theorem dX5_likeOne_12 : decode cX5_likeOne 12 = .ok (.aload_n 0, 1) := by decide +kernel
theorem dX5_likeOne_13 : decode cX5_likeOne 13 = .ok (.getfield 24, 3) := by decide +kernel
theorem dX5_likeOne_16 : decode cX5_likeOne 16 = .ok (.iload 4, 2) := by decide +kernel
theorem dX5_likeOne_18 : decode cX5_likeOne 18 = .ok (.iaload, 1) := by decide +kernel
theorem dX5_likeOne_19 : decode cX5_likeOne 19 = .ok (.iload_n 1, 1) := by decide +kernel
theorem dX5_likeOne_20 : decode cX5_likeOne 20 = .ok (.if_icmp .ne 13, 3) := by decide +kernel
theorem dX5_likeOne_23 : decode cX5_likeOne 23 = .ok (.iload_n 3, 1) := by decide +kernel
theorem dX5_likeOne_24 : decode cX5_likeOne 24 = .ok (.ifCond .ne 6, 3) := by decide +kernel
theorem dX5_likeOne_27 : decode cX5_likeOne 27 = .ok (.iload 4, 2) := by decide +kernel
theorem dX5_likeOne_29 : decode cX5_likeOne 29 = .ok (.ireturn, 1) := by decide +kernel
theorem dX5_likeOne_30 : decode cX5_likeOne 30 = .ok (.iinc 3 (-1), 3) := by decide +kernel
theorem dX5_likeOne_33 : decode cX5_likeOne 33 = .ok (.iinc 4 1, 3) := by decide +kernel
theorem dX5_likeOne_36 : decode cX5_likeOne 36 = .ok (.goto (-31), 3) := by decide +kernel
theorem dX5_likeOne_39 : decode cX5_likeOne 39 = .ok (.iconst (-1), 1) := by decide +kernel
theorem dX5_likeOne_40 : decode cX5_likeOne 40 = .ok (.ireturn, 1) := by decide +kernel
theorem dX5_atLeast_0 : decode cX5_atLeast 0 = .ok (.iconst 0, 1) := by decide +kernel
theorem dX5_atLeast_1 : decode cX5_atLeast 1 = .ok (.istore_n 1, 1) := by decide +kernel
theorem dX5_atLeast_2 : decode cX5_atLeast 2 = .ok (.iconst 1, 1) := by decide +kernel
theorem dX5_atLeast_3 : decode cX5_atLeast 3 = .ok (.istore_n 2, 1) := by decide +kernel
theorem dX5_atLeast_4 : decode cX5_atLeast 4 = .ok (.iload_n 2, 1) := by decide +kernel
theorem dX5_atLeast_5 : decode cX5_atLeast 5 = .ok (.bipush 80, 2) := by decide +kernel
theorem dX5_atLeast_7 : decode cX5_atLeast 7 = .ok (.if_icmp .ge 36, 3) := by decide +kernel
theorem dX5_atLeast_10 : decode cX5_atLeast 10 = .ok (.aload_n 0, 1) := by decide +kernel
theorem dX5_atLeast_11 : decode cX5_atLeast 11 = .ok (.getfield 24, 3) := by decide +kernel
theorem dX5_atLeast_14 : decode cX5_atLeast 14 = .ok (.iload_n 2, 1) := by decide +kernel
theorem dX5_atLeast_15 : decode cX5_atLeast 15 = .ok (.iaload, 1) := by decide +kernel
theorem dX5_atLeast_16 : decode cX5_atLeast 16 = .ok (.iconst (-1), 1) := by decide +kernel
theorem dX5_atLeast_17 : decode cX5_atLeast 17 = .ok (.if_icmp .eq 20, 3) := by decide +kernel
theorem dX5_atLeast_20 : decode cX5_atLeast 20 = .ok (.aload_n 0, 1) := by decide +kernel
theorem dX5_atLeast_21 : decode cX5_atLeast 21 = .ok (.getfield 24, 3) := by decide +kernel
theorem dX5_atLeast_24 : decode cX5_atLeast 24 = .ok (.iload_n 2, 1) := by decide +kernel
theorem dX5_atLeast_25 : decode cX5_atLeast 25 = .ok (.iaload, 1) := by decide +kernel
theorem dX5_atLeast_26 : decode cX5_atLeast 26 = .ok (.aload_n 0, 1) := by decide +kernel
theorem dX5_atLeast_27 : decode cX5_atLeast 27 = .ok (.getfield 24, 3) := by decide +kernel
theorem dX5_atLeast_30 : decode cX5_atLeast 30 = .ok (.iload_n 1, 1) := by decide +kernel
theorem dX5_atLeast_31 : decode cX5_atLeast 31 = .ok (.iaload, 1) := by decide +kernel
theorem dX5_atLeast_32 : decode cX5_atLeast 32 = .ok (.if_icmp .ge 5, 3) := by decide +kernel
theorem dX5_atLeast_35 : decode cX5_atLeast 35 = .ok (.iload_n 2, 1) := by decide +kernel
theorem dX5_atLeast_36 : decode cX5_atLeast 36 = .ok (.istore_n 1, 1) := by decide +kernel
theorem dX5_atLeast_37 : decode cX5_atLeast 37 = .ok (.iinc 2 1, 3) := by decide +kernel
theorem dX5_atLeast_40 : decode cX5_atLeast 40 = .ok (.goto (-36), 3) := by decide +kernel
theorem dX5_atLeast_43 : decode cX5_atLeast 43 = .ok (.iload_n 1, 1) := by decide +kernel
theorem dX5_atLeast_44 : decode cX5_atLeast 44 = .ok (.ireturn, 1) := by decide +kernel
theorem dX5_atGreatest_0 : decode cX5_atGreatest 0 = .ok (.iconst 0, 1) := by decide +kernel
theorem dX5_atGreatest_1 : decode cX5_atGreatest 1 = .ok (.istore_n 1, 1) := by decide +kernel
theorem dX5_atGreatest_2 : decode cX5_atGreatest 2 = .ok (.iconst 1, 1) := by decide +kernel
theorem dX5_atGreatest_3 : decode cX5_atGreatest 3 = .ok (.istore_n 2, 1) := by decide +kernel
theorem dX5_atGreatest_4 : decode cX5_atGreatest 4 = .ok (.iload_n 2, 1) := by decide +kernel
theorem dX5_atGreatest_5 : decode cX5_atGreatest 5 = .ok (.bipush 80, 2) := by decide +kernel
theorem dX5_atGreatest_7 : decode cX5_atGreatest 7 = .ok (.if_icmp .ge 26, 3) := by decide +kernel
theorem dX5_atGreatest_10 : decode cX5_atGreatest 10 = .ok (.aload_n 0, 1) := by decide +kernel
theorem dX5_atGreatest_11 : decode cX5_atGreatest 11 = .ok (.getfield 24, 3) := by decide +kernel
theorem dX5_atGreatest_14 : decode cX5_atGreatest 14 = .ok (.iload_n 2, 1) := by decide +kernel
theorem dX5_atGreatest_15 : decode cX5_atGreatest 15 = .ok (.iaload, 1) := by decide +kernel
theorem dX5_atGreatest_16 : decode cX5_atGreatest 16 = .ok (.aload_n 0, 1) := by decide +kernel
theorem dX5_atGreatest_17 : decode cX5_atGreatest 17 = .ok (.getfield 24, 3) := by decide +kernel
theorem dX5_atGreatest_20 : decode cX5_atGreatest 20 = .ok (.iload_n 1, 1) := by decide +kernel
theorem dX5_atGreatest_21 : decode cX5_atGreatest 21 = .ok (.iaload, 1) := by decide +kernel
theorem dX5_atGreatest_22 : decode cX5_atGreatest 22 = .ok (.if_icmp .le 5, 3) := by decide +kernel
theorem dX5_atGreatest_25 : decode cX5_atGreatest 25 = .ok (.iload_n 2, 1) := by decide +kernel
theorem dX5_atGreatest_26 : decode cX5_atGreatest 26 = .ok (.istore_n 1, 1) := by decide +kernel
theorem dX5_atGreatest_27 : decode cX5_atGreatest 27 = .ok (.iinc 2 1, 3) := by decide +kernel
theorem dX5_atGreatest_30 : decode cX5_atGreatest 30 = .ok (.goto (-26), 3) := by decide +kernel
theorem dX5_atGreatest_33 : decode cX5_atGreatest 33 = .ok (.iload_n 1, 1) := by decide +kernel
theorem dX5_atGreatest_34 : decode cX5_atGreatest 34 = .ok (.ireturn, 1) := by decide +kernel
theorem dJ9_max_7cf53_0 : decode cJ9_max_7cf53 0 = .ok (.iload_n 0, 1) := by decide +kernel
theorem dJ9_max_7cf53_1 : decode cJ9_max_7cf53 1 = .ok (.iload_n 1, 1) := by decide +kernel
theorem dJ9_max_7cf53_2 : decode cJ9_max_7cf53 2 = .ok (.if_icmp .lt 7, 3) := by decide +kernel
theorem dJ9_max_7cf53_5 : decode cJ9_max_7cf53 5 = .ok (.iload_n 0, 1) := by decide +kernel
theorem dJ9_max_7cf53_6 : decode cJ9_max_7cf53 6 = .ok (.goto 4, 3) := by decide +kernel
theorem dJ9_max_7cf53_9 : decode cJ9_max_7cf53 9 = .ok (.iload_n 1, 1) := by decide +kernel
theorem dJ9_max_7cf53_10 : decode cJ9_max_7cf53 10 = .ok (.ireturn, 1) := by decide +kernel
theorem dJ9_min_7cf53_0 : decode cJ9_min_7cf53 0 = .ok (.iload_n 0, 1) := by decide +kernel
theorem dJ9_min_7cf53_1 : decode cJ9_min_7cf53 1 = .ok (.iload_n 1, 1) := by decide +kernel
theorem dJ9_min_7cf53_2 : decode cJ9_min_7cf53 2 = .ok (.if_icmp .gt 7, 3) := by decide +kernel
theorem dJ9_min_7cf53_5 : decode cJ9_min_7cf53 5 = .ok (.iload_n 0, 1) := by decide +kernel
theorem dJ9_min_7cf53_6 : decode cJ9_min_7cf53 6 = .ok (.goto 4, 3) := by decide +kernel
theorem dJ9_min_7cf53_9 : decode cJ9_min_7cf53 9 = .ok (.iload_n 1, 1) := by decide +kernel
theorem dJ9_min_7cf53_10 : decode cJ9_min_7cf53 10 = .ok (.ireturn, 1) := by decide +kernel
theorem dJ7_fill_53178_0 : decode cJ7_fill_53178 0 = .ok (.iconst 0, 1) := by decide +kernel
theorem dJ7_fill_53178_1 : decode cJ7_fill_53178 1 = .ok (.istore_n 2, 1) := by decide +kernel
theorem dJ7_fill_53178_2 : decode cJ7_fill_53178 2 = .ok (.aload_n 0, 1) := by decide +kernel
theorem dJ7_fill_53178_3 : decode cJ7_fill_53178 3 = .ok (.arraylength, 1) := by decide +kernel
theorem dJ7_fill_53178_4 : decode cJ7_fill_53178 4 = .ok (.istore_n 3, 1) := by decide +kernel
theorem dJ7_fill_53178_5 : decode cJ7_fill_53178 5 = .ok (.iload_n 2, 1) := by decide +kernel
theorem dJ7_fill_53178_6 : decode cJ7_fill_53178 6 = .ok (.iload_n 3, 1) := by decide +kernel
theorem dJ7_fill_53178_7 : decode cJ7_fill_53178 7 = .ok (.if_icmp .ge 13, 3) := by decide +kernel
theorem dJ7_fill_53178_10 : decode cJ7_fill_53178 10 = .ok (.aload_n 0, 1) := by decide +kernel
theorem dJ7_fill_53178_11 : decode cJ7_fill_53178 11 = .ok (.iload_n 2, 1) := by decide +kernel
theorem dJ7_fill_53178_12 : decode cJ7_fill_53178 12 = .ok (.iload_n 1, 1) := by decide +kernel
theorem dJ7_fill_53178_13 : decode cJ7_fill_53178 13 = .ok (.iastore, 1) := by decide +kernel
theorem dJ7_fill_53178_14 : decode cJ7_fill_53178 14 = .ok (.iinc 2 1, 3) := by decide +kernel
theorem dJ7_fill_53178_17 : decode cJ7_fill_53178 17 = .ok (.goto (-12), 3) := by decide +kernel
theorem dJ7_fill_53178_20 : decode cJ7_fill_53178 20 = .ok (.return_, 1) := by decide +kernel
