theorem dX7_init_5 : decode cX7_init 5 = .ok (.iload_n 1, 1) := by decide +kernel
theorem dX7_init_6 : decode cX7_init 6 = .ok (.newarray .int, 2) := by decide +kernel
theorem dX7_init_8 : decode cX7_init 8 = .ok (.putfield 7, 3) := by decide +kernel
theorem dX7_init_11 : decode cX7_init 11 = .ok (.aload_n 0, 1) := by decide +kernel
theorem dX7_init_12 : decode cX7_init 12 = .ok (.iconst (-1), 1) := by decide +kernel
theorem dX7_init_13 : decode cX7_init 13 = .ok (.putfield 13, 3) := by decide +kernel
theorem dX7_init_16 : decode cX7_init 16 = .ok (.return_, 1) := by decide +kernel
theorem dX7_missing_0 : decode cX7_missing 0 = .ok (.aload_n 0, 1) := by decide +kernel
theorem dX7_missing_1 : decode cX7_missing 1 = .ok (.getfield 13, 3) := by decide +kernel
theorem dX7_missing_4 : decode cX7_missing 4 = .ok (.iconst (-1), 1) := by decide +kernel
theorem dX7_missing_5 : decode cX7_missing 5 = .ok (.if_icmp .ne 7, 3) := by decide +kernel
theorem dX7_missing_8 : decode cX7_missing 8 = .ok (.iconst 1, 1) := by decide +kernel
theorem dX7_missing_9 : decode cX7_missing 9 = .ok (.goto 4, 3) := by decide +kernel
theorem dX7_missing_12 : decode cX7_missing 12 = .ok (.iconst 0, 1) := by decide +kernel
theorem dX7_missing_13 : decode cX7_missing 13 = .ok (.ireturn, 1) := by decide +kernel
theorem dX7_begin_0 : decode cX7_begin 0 = .ok (.iload_n 2, 1) := by decide +kernel
theorem dX7_begin_1 : decode cX7_begin 1 = .ok (.ifCond .lt 12, 3) := by decide +kernel
theorem dX7_begin_4 : decode cX7_begin 4 = .ok (.iload_n 2, 1) := by decide +kernel
theorem dX7_begin_5 : decode cX7_begin 5 = .ok (.aload_n 0, 1) := by decide +kernel
theorem dX7_begin_6 : decode cX7_begin 6 = .ok (.getfield 7, 3) := by decide +kernel
theorem dX7_begin_9 : decode cX7_begin 9 = .ok (.arraylength, 1) := by decide +kernel
theorem dX7_begin_10 : decode cX7_begin 10 = .ok (.if_icmp .le 4, 3) := by decide +kernel
theorem dX7_begin_13 : decode cX7_begin 13 = .ok (.return_, 1) := by decide +kernel
theorem dX7_begin_14 : decode cX7_begin 14 = .ok (.aload_n 0, 1) := by decide +kernel
theorem dX7_begin_15 : decode cX7_begin 15 = .ok (.iload_n 1, 1) := by decide +kernel
theorem dX7_begin_16 : decode cX7_begin 16 = .ok (.putfield 13, 3) := by decide +kernel
theorem dX7_begin_19 : decode cX7_begin 19 = .ok (.aload_n 0, 1) := by decide +kernel
theorem dX7_begin_20 : decode cX7_begin 20 = .ok (.iload_n 2, 1) := by decide +kernel
theorem dX7_begin_21 : decode cX7_begin 21 = .ok (.putfield 17, 3) := by decide +kernel
theorem dX7_begin_24 : decode cX7_begin 24 = .ok (.aload_n 0, 1) := by decide +kernel
theorem dX7_begin_25 : decode cX7_begin 25 = .ok (.getfield 7, 3) := by decide +kernel
theorem dX7_begin_28 : decode cX7_begin 28 = .ok (.iconst 0, 1) := by decide +kernel
theorem dX7_begin_29 : decode cX7_begin 29 = .ok (.invokestatic 20, 3) := by decide +kernel
theorem dX7_begin_32 : decode cX7_begin 32 = .ok (.return_, 1) := by decide +kernel
theorem dX7_end_0 : decode cX7_end 0 = .ok (.aload_n 0, 1) := by decide +kernel
theorem dX7_end_1 : decode cX7_end 1 = .ok (.iconst (-1), 1) := by decide +kernel
theorem dX7_end_2 : decode cX7_end 2 = .ok (.putfield 13, 3) := by decide +kernel
theorem dX7_end_5 : decode cX7_end 5 = .ok (.aload_n 0, 1) := by decide +kernel
theorem dX7_end_6 : decode cX7_end 6 = .ok (.iconst 0, 1) := by decide +kernel
theorem dX7_end_7 : decode cX7_end 7 = .ok (.putfield 17, 3) := by decide +kernel
theorem dX7_end_10 : decode cX7_end 10 = .ok (.return_, 1) := by decide +kernel
theorem dX7_holds_0 : decode cX7_holds 0 = .ok (.iload_n 1, 1) := by decide +kernel
theorem dX7_holds_1 : decode cX7_holds 1 = .ok (.ifCond .lt 21, 3) := by decide +kernel
theorem dX7_holds_4 : decode cX7_holds 4 = .ok (.iload_n 2, 1) := by decide +kernel
theorem dX7_holds_5 : decode cX7_holds 5 = .ok (.ifCond .lt 17, 3) := by decide +kernel
theorem dX7_holds_8 : decode cX7_holds 8 = .ok (.iload_n 1, 1) := by decide +kernel
theorem dX7_holds_9 : decode cX7_holds 9 = .ok (.aload_n 0, 1) := by decide +kernel
theorem dX7_holds_10 : decode cX7_holds 10 = .ok (.getfield 17, 3) := by decide +kernel
theorem dX7_holds_13 : decode cX7_holds 13 = .ok (.iload_n 2, 1) := by decide +kernel
theorem dX7_holds_14 : decode cX7_holds 14 = .ok (.isub, 1) := by decide +kernel
theorem dX7_holds_15 : decode cX7_holds 15 = .ok (.if_icmp .gt 7, 3) := by decide +kernel
theorem dX7_holds_18 : decode cX7_holds 18 = .ok (.iconst 1, 1) := by decide +kernel
theorem dX7_holds_19 : decode cX7_holds 19 = .ok (.goto 4, 3) := by decide +kernel
theorem dX7_holds_22 : decode cX7_holds 22 = .ok (.iconst 0, 1) := by decide +kernel
theorem dX7_holds_23 : decode cX7_holds 23 = .ok (.ireturn, 1) := by decide +kernel
theorem dX7_item_0 : decode cX7_item 0 = .ok (.aload_n 0, 1) := by decide +kernel
theorem dX7_item_1 : decode cX7_item 1 = .ok (.iload_n 1, 1) := by decide +kernel
theorem dX7_item_2 : decode cX7_item 2 = .ok (.iconst 1, 1) := by decide +kernel
theorem dX7_item_3 : decode cX7_item 3 = .ok (.invokevirtual 26, 3) := by decide +kernel
theorem dX7_item_6 : decode cX7_item 6 = .ok (.ifCond .eq 12, 3) := by decide +kernel
theorem dX7_item_9 : decode cX7_item 9 = .ok (.aload_n 0, 1) := by decide +kernel
theorem dX7_item_10 : decode cX7_item 10 = .ok (.getfield 7, 3) := by decide +kernel
theorem dX7_item_13 : decode cX7_item 13 = .ok (.iload_n 1, 1) := by decide +kernel
theorem dX7_item_14 : decode cX7_item 14 = .ok (.iaload, 1) := by decide +kernel
theorem dX7_item_15 : decode cX7_item 15 = .ok (.goto 4, 3) := by decide +kernel
theorem dX7_item_18 : decode cX7_item 18 = .ok (.iconst 0, 1) := by decide +kernel
theorem dX7_item_19 : decode cX7_item 19 = .ok (.ireturn, 1) := by decide +kernel
theorem dX7_put_0 : decode cX7_put 0 = .ok (.aload_n 0, 1) := by decide +kernel
theorem dX7_put_1 : decode cX7_put 1 = .ok (.iload_n 1, 1) := by decide +kernel
theorem dX7_put_2 : decode cX7_put 2 = .ok (.iconst 1, 1) := by decide +kernel
theorem dX7_put_3 : decode cX7_put 3 = .ok (.invokevirtual 26, 3) := by decide +kernel
theorem dX7_put_6 : decode cX7_put 6 = .ok (.ifCond .ne 5, 3) := by decide +kernel
theorem dX7_put_9 : decode cX7_put 9 = .ok (.iconst 0, 1) := by decide +kernel
theorem dX7_put_10 : decode cX7_put 10 = .ok (.ireturn, 1) := by decide +kernel
theorem dX7_put_11 : decode cX7_put 11 = .ok (.aload_n 0, 1) := by decide +kernel
theorem dX7_put_12 : decode cX7_put 12 = .ok (.getfield 7, 3) := by decide +kernel
theorem dX7_put_15 : decode cX7_put 15 = .ok (.iload_n 1, 1) := by decide +kernel
theorem dX7_put_16 : decode cX7_put 16 = .ok (.aload_n 0, 1) := by decide +kernel
theorem dX7_put_17 : decode cX7_put 17 = .ok (.getfield 13, 3) := by decide +kernel
theorem dX7_put_20 : decode cX7_put 20 = .ok (.ifCond .ne 8, 3) := by decide +kernel
theorem dX7_put_23 : decode cX7_put 23 = .ok (.iload_n 2, 1) := by decide +kernel
theorem dX7_put_24 : decode cX7_put 24 = .ok (.i2b, 1) := by decide +kernel
theorem dX7_put_25 : decode cX7_put 25 = .ok (.goto 17, 3) := by decide +kernel
theorem dX7_put_28 : decode cX7_put 28 = .ok (.aload_n 0, 1) := by decide +kernel
theorem dX7_put_29 : decode cX7_put 29 = .ok (.getfield 13, 3) := by decide +kernel
theorem dX7_put_32 : decode cX7_put 32 = .ok (.iconst 1, 1) := by decide +kernel
theorem dX7_put_33 : decode cX7_put 33 = .ok (.if_icmp .ne 8, 3) := by decide +kernel
theorem dX7_put_36 : decode cX7_put 36 = .ok (.iload_n 2, 1) := by decide +kernel
theorem dX7_put_37 : decode cX7_put 37 = .ok (.i2s, 1) := by decide +kernel
theorem dX7_put_38 : decode cX7_put 38 = .ok (.goto 4, 3) := by decide +kernel
theorem dX7_put_41 : decode cX7_put 41 = .ok (.iload_n 2, 1) := by decide +kernel
theorem dX7_put_42 : decode cX7_put 42 = .ok (.iastore, 1) := by decide +kernel
theorem dX7_put_43 : decode cX7_put 43 = .ok (.aload_n 0, 1) := by decide +kernel
theorem dX7_put_44 : decode cX7_put 44 = .ok (.getfield 7, 3) := by decide +kernel
theorem dX7_put_47 : decode cX7_put 47 = .ok (.iload_n 1, 1) := by decide +kernel
theorem dX7_put_48 : decode cX7_put 48 = .ok (.iaload, 1) := by decide +kernel
theorem dX7_put_49 : decode cX7_put 49 = .ok (.ireturn, 1) := by decide +kernel
theorem dX7_add_0 : decode cX7_add 0 = .ok (.aload_n 0, 1) := by decide +kernel
theorem dX7_add_1 : decode cX7_add 1 = .ok (.getfield 17, 3) := by decide +kernel
theorem dX7_add_4 : decode cX7_add 4 = .ok (.aload_n 0, 1) := by decide +kernel
theorem dX7_add_5 : decode cX7_add 5 = .ok (.getfield 7, 3) := by decide +kernel
theorem dX7_add_8 : decode cX7_add 8 = .ok (.arraylength, 1) := by decide +kernel
theorem dX7_add_9 : decode cX7_add 9 = .ok (.if_icmp .ge 23, 3) := by decide +kernel
theorem dX7_add_12 : decode cX7_add 12 = .ok (.aload_n 0, 1) := by decide +kernel
theorem dX7_add_13 : decode cX7_add 13 = .ok (.getfield 7, 3) := by decide +kernel
theorem dX7_add_16 : decode cX7_add 16 = .ok (.aload_n 0, 1) := by decide +kernel
theorem dX7_add_17 : decode cX7_add 17 = .ok (.getfield 17, 3) := by decide +kernel
theorem dX7_add_20 : decode cX7_add 20 = .ok (.iload_n 1, 1) := by decide +kernel
theorem dX7_add_21 : decode cX7_add 21 = .ok (.iastore, 1) := by decide +kernel
theorem dX7_add_22 : decode cX7_add 22 = .ok (.aload_n 0, 1) := by decide +kernel
theorem dX7_add_23 : decode cX7_add 23 = .ok (.dup, 1) := by decide +kernel
theorem dX7_add_24 : decode cX7_add 24 = .ok (.getfield 17, 3) := by decide +kernel
theorem dX7_add_27 : decode cX7_add 27 = .ok (.iconst 1, 1) := by decide +kernel
theorem dX7_add_28 : decode cX7_add 28 = .ok (.iadd, 1) := by decide +kernel
theorem dX7_add_29 : decode cX7_add 29 = .ok (.putfield 17, 3) := by decide +kernel
theorem dX7_add_32 : decode cX7_add 32 = .ok (.return_, 1) := by decide +kernel
theorem dX7_take_0 : decode cX7_take 0 = .ok (.aload_n 0, 1) := by decide +kernel
theorem dX7_take_1 : decode cX7_take 1 = .ok (.iload_n 1, 1) := by decide +kernel
theorem dX7_take_2 : decode cX7_take 2 = .ok (.iload 4, 2) := by decide +kernel
theorem dX7_take_4 : decode cX7_take 4 = .ok (.invokevirtual 26, 3) := by decide +kernel
theorem dX7_take_7 : decode cX7_take 7 = .ok (.ifCond .eq 28, 3) := by decide +kernel
theorem dX7_take_10 : decode cX7_take 10 = .ok (.aload_n 2, 1) := by decide +kernel
theorem dX7_take_11 : decode cX7_take 11 = .ok (.iload_n 3, 1) := by decide +kernel
theorem dX7_take_12 : decode cX7_take 12 = .ok (.iload 4, 2) := by decide +kernel
theorem dX7_take_14 : decode cX7_take 14 = .ok (.invokevirtual 26, 3) := by decide +kernel
theorem dX7_take_17 : decode cX7_take 17 = .ok (.ifCond .eq 18, 3) := by decide +kernel
theorem dX7_take_20 : decode cX7_take 20 = .ok (.aload_n 2, 1) := by decide +kernel
theorem dX7_take_21 : decode cX7_take 21 = .ok (.getfield 7, 3) := by decide +kernel
theorem dX7_take_24 : decode cX7_take 24 = .ok (.iload_n 3, 1) := by decide +kernel
theorem dX7_take_25 : decode cX7_take 25 = .ok (.aload_n 0, 1) := by decide +kernel
theorem dX7_take_26 : decode cX7_take 26 = .ok (.getfield 7, 3) := by decide +kernel
theorem dX7_take_29 : decode cX7_take 29 = .ok (.iload_n 1, 1) := by decide +kernel
theorem dX7_take_30 : decode cX7_take 30 = .ok (.iload 4, 2) := by decide +kernel
theorem dX7_take_32 : decode cX7_take 32 = .ok (.invokestatic 30, 3) := by decide +kernel
theorem dX7_take_35 : decode cX7_take 35 = .ok (.return_, 1) := by decide +kernel
theorem dX7_orderFrom_0 : decode cX7_orderFrom 0 = .ok (.lconst 0, 1) := by decide +kernel
theorem dX7_orderFrom_1 : decode cX7_orderFrom 1 = .ok (.lstore_n 3, 1) := by decide +kernel
theorem dX7_orderFrom_2 : decode cX7_orderFrom 2 = .ok (.iconst 0, 1) := by decide +kernel
theorem dX7_orderFrom_3 : decode cX7_orderFrom 3 = .ok (.istore 5, 2) := by decide +kernel
theorem dX7_orderFrom_5 : decode cX7_orderFrom 5 = .ok (.iconst 0, 1) := by decide +kernel
theorem dX7_orderFrom_6 : decode cX7_orderFrom 6 = .ok (.istore 6, 2) := by decide +kernel
theorem dX7_orderFrom_8 : decode cX7_orderFrom 8 = .ok (.iload 6, 2) := by decide +kernel
theorem dX7_orderFrom_10 : decode cX7_orderFrom 10 = .ok (.iload_n 2, 1) := by decide +kernel
theorem dX7_orderFrom_11 : decode cX7_orderFrom 11 = .ok (.if_icmp .ge 62, 3) := by decide +kernel
theorem dX7_orderFrom_14 : decode cX7_orderFrom 14 = .ok (.aload_n 0, 1) := by decide +kernel
theorem dX7_orderFrom_15 : decode cX7_orderFrom 15 = .ok (.iload_n 1, 1) := by decide +kernel
theorem dX7_orderFrom_16 : decode cX7_orderFrom 16 = .ok (.iload 6, 2) := by decide +kernel
theorem dX7_orderFrom_18 : decode cX7_orderFrom 18 = .ok (.iadd, 1) := by decide +kernel
theorem dX7_orderFrom_19 : decode cX7_orderFrom 19 = .ok (.invokevirtual 36, 3) := by decide +kernel
theorem dX7_orderFrom_22 : decode cX7_orderFrom 22 = .ok (.istore 7, 2) := by decide +kernel
theorem dX7_orderFrom_24 : decode cX7_orderFrom 24 = .ok (.iload 7, 2) := by decide +kernel
theorem dX7_orderFrom_26 : decode cX7_orderFrom 26 = .ok (.ifCond .lt 19, 3) := by decide +kernel
theorem dX7_orderFrom_29 : decode cX7_orderFrom 29 = .ok (.iload 7, 2) := by decide +kernel
theorem dX7_orderFrom_31 : decode cX7_orderFrom 31 = .ok (.iload_n 2, 1) := by decide +kernel
theorem dX7_orderFrom_32 : decode cX7_orderFrom 32 = .ok (.if_icmp .ge 13, 3) := by decide +kernel
theorem dX7_orderFrom_35 : decode cX7_orderFrom 35 = .ok (.iload 5, 2) := by decide +kernel
theorem dX7_orderFrom_37 : decode cX7_orderFrom 37 = .ok (.iload 7, 2) := by decide +kernel
theorem dX7_orderFrom_39 : decode cX7_orderFrom 39 = .ok (.ishr, 1) := by decide +kernel
theorem dX7_orderFrom_40 : decode cX7_orderFrom 40 = .ok (.iconst 1, 1) := by decide +kernel
theorem dX7_orderFrom_41 : decode cX7_orderFrom 41 = .ok (.iand, 1) := by decide +kernel
theorem dX7_orderFrom_42 : decode cX7_orderFrom 42 = .ok (.ifCond .eq 7, 3) := by decide +kernel
theorem dX7_orderFrom_45 : decode cX7_orderFrom 45 = .ok (.ldc2_w 42, 3) := by decide +kernel
theorem dX7_orderFrom_48 : decode cX7_orderFrom 48 = .ok (.lreturn, 1) := by decide +kernel
theorem dX7_orderFrom_49 : decode cX7_orderFrom 49 = .ok (.iload 5, 2) := by decide +kernel
theorem dX7_orderFrom_51 : decode cX7_orderFrom 51 = .ok (.iconst 1, 1) := by decide +kernel
theorem dX7_orderFrom_52 : decode cX7_orderFrom 52 = .ok (.iload 7, 2) := by decide +kernel
theorem dX7_orderFrom_54 : decode cX7_orderFrom 54 = .ok (.ishl, 1) := by decide +kernel
theorem dX7_orderFrom_55 : decode cX7_orderFrom 55 = .ok (.ior, 1) := by decide +kernel
theorem dX7_orderFrom_56 : decode cX7_orderFrom 56 = .ok (.istore 5, 2) := by decide +kernel
theorem dX7_orderFrom_58 : decode cX7_orderFrom 58 = .ok (.lload_n 3, 1) := by decide +kernel
theorem dX7_orderFrom_59 : decode cX7_orderFrom 59 = .ok (.iload 6, 2) := by decide +kernel
theorem dX7_orderFrom_61 : decode cX7_orderFrom 61 = .ok (.iload 7, 2) := by decide +kernel
theorem dX7_orderFrom_63 : decode cX7_orderFrom 63 = .ok (.invokestatic 44, 3) := by decide +kernel
theorem dX7_orderFrom_66 : decode cX7_orderFrom 66 = .ok (.lstore_n 3, 1) := by decide +kernel
theorem dX7_orderFrom_67 : decode cX7_orderFrom 67 = .ok (.iinc 6 1, 3) := by decide +kernel
theorem dX7_orderFrom_70 : decode cX7_orderFrom 70 = .ok (.goto (-62), 3) := by decide +kernel
theorem dX7_orderFrom_73 : decode cX7_orderFrom 73 = .ok (.lload_n 3, 1) := by decide +kernel
theorem dX7_orderFrom_74 : decode cX7_orderFrom 74 = .ok (.lreturn, 1) := by decide +kernel
theorem dX8_init_0 : decode cX8_init 0 = .ok (.aload_n 0, 1) := by decide +kernel
theorem dX8_init_1 : decode cX8_init 1 = .ok (.invokespecial 3, 3) := by decide +kernel
theorem dX8_init_4 : decode cX8_init 4 = .ok (.aload_n 0, 1) := by decide +kernel
theorem dX8_init_5 : decode cX8_init 5 = .ok (.bipush 42, 2) := by decide +kernel
theorem dX8_init_7 : decode cX8_init 7 = .ok (.newarray .long, 2) := by decide +kernel
theorem dX8_init_9 : decode cX8_init 9 = .ok (.putfield 11, 3) := by decide +kernel
theorem dX8_init_12 : decode cX8_init 12 = .ok (.aload_n 0, 1) := by decide +kernel
theorem dX8_init_13 : decode cX8_init 13 = .ok (.sipush 420, 3) := by decide +kernel
theorem dX8_init_16 : decode cX8_init 16 = .ok (.newarray .long, 2) := by decide +kernel
theorem dX8_init_18 : decode cX8_init 18 = .ok (.putfield 15, 3) := by decide +kernel
theorem dX8_init_21 : decode cX8_init 21 = .ok (.return_, 1) := by decide +kernel
theorem dX8_one_0 : decode cX8_one 0 = .ok (.lconst 1, 1) := by decide +kernel
theorem dX8_one_1 : decode cX8_one 1 = .ok (.iconst 4, 1) := by decide +kernel
theorem dX8_one_2 : decode cX8_one 2 = .ok (.iload_n 0, 1) := by decide +kernel
theorem dX8_one_3 : decode cX8_one 3 = .ok (.iconst 1, 1) := by decide +kernel
theorem dX8_one_4 : decode cX8_one 4 = .ok (.isub, 1) := by decide +kernel
theorem dX8_one_5 : decode cX8_one 5 = .ok (.imul, 1) := by decide +kernel
theorem dX8_one_6 : decode cX8_one 6 = .ok (.lshl, 1) := by decide +kernel
theorem dX8_one_7 : decode cX8_one 7 = .ok (.lreturn, 1) := by decide +kernel
theorem dX8_times_0 : decode cX8_times 0 = .ok (.lload_n 0, 1) := by decide +kernel
theorem dX8_times_1 : decode cX8_times 1 = .ok (.iconst 4, 1) := by decide +kernel
theorem dX8_times_2 : decode cX8_times 2 = .ok (.iload_n 2, 1) := by decide +kernel
theorem dX8_times_3 : decode cX8_times 3 = .ok (.iconst 1, 1) := by decide +kernel
theorem dX8_times_4 : decode cX8_times 4 = .ok (.isub, 1) := by decide +kernel
theorem dX8_times_5 : decode cX8_times 5 = .ok (.imul, 1) := by decide +kernel
theorem dX8_times_6 : decode cX8_times 6 = .ok (.lushr, 1) := by decide +kernel
theorem dX8_times_7 : decode cX8_times 7 = .ok (.l2i, 1) := by decide +kernel
theorem dX8_times_8 : decode cX8_times 8 = .ok (.bipush 15, 2) := by decide +kernel
theorem dX8_times_10 : decode cX8_times 10 = .ok (.iand, 1) := by decide +kernel
theorem dX8_times_11 : decode cX8_times 11 = .ok (.ireturn, 1) := by decide +kernel
theorem dX8_lengthsOf_0 : decode cX8_lengthsOf 0 = .ok (.lconst 0, 1) := by decide +kernel
theorem dX8_lengthsOf_1 : decode cX8_lengthsOf 1 = .ok (.lstore_n 3, 1) := by decide +kernel
theorem dX8_lengthsOf_2 : decode cX8_lengthsOf 2 = .ok (.iconst 0, 1) := by decide +kernel
theorem dX8_lengthsOf_3 : decode cX8_lengthsOf 3 = .ok (.istore 5, 2) := by decide +kernel
theorem dX8_lengthsOf_5 : decode cX8_lengthsOf 5 = .ok (.iconst 0, 1) := by decide +kernel
theorem dX8_lengthsOf_6 : decode cX8_lengthsOf 6 = .ok (.istore 6, 2) := by decide +kernel
theorem dX8_lengthsOf_8 : decode cX8_lengthsOf 8 = .ok (.iload 6, 2) := by decide +kernel
theorem dX8_lengthsOf_10 : decode cX8_lengthsOf 10 = .ok (.iload_n 2, 1) := by decide +kernel
theorem dX8_lengthsOf_11 : decode cX8_lengthsOf 11 = .ok (.if_icmp .ge 74, 3) := by decide +kernel
theorem dX8_lengthsOf_14 : decode cX8_lengthsOf 14 = .ok (.iconst 0, 1) := by decide +kernel
theorem dX8_lengthsOf_15 : decode cX8_lengthsOf 15 = .ok (.istore 7, 2) := by decide +kernel
theorem dX8_lengthsOf_17 : decode cX8_lengthsOf 17 = .ok (.iload 6, 2) := by decide +kernel
theorem dX8_lengthsOf_19 : decode cX8_lengthsOf 19 = .ok (.istore 8, 2) := by decide +kernel
theorem dX8_lengthsOf_21 : decode cX8_lengthsOf 21 = .ok (.iconst 0, 1) := by decide +kernel
theorem dX8_lengthsOf_22 : decode cX8_lengthsOf 22 = .ok (.istore 9, 2) := by decide +kernel
theorem dX8_lengthsOf_24 : decode cX8_lengthsOf 24 = .ok (.iload 9, 2) := by decide +kernel
theorem dX8_lengthsOf_26 : decode cX8_lengthsOf 26 = .ok (.iload_n 2, 1) := by decide +kernel
theorem dX8_lengthsOf_27 : decode cX8_lengthsOf 27 = .ok (.if_icmp .ge 39, 3) := by decide +kernel
theorem dX8_lengthsOf_30 : decode cX8_lengthsOf 30 = .ok (.iload 5, 2) := by decide +kernel
theorem dX8_lengthsOf_32 : decode cX8_lengthsOf 32 = .ok (.iload 8, 2) := by decide +kernel
theorem dX8_lengthsOf_34 : decode cX8_lengthsOf 34 = .ok (.ishr, 1) := by decide +kernel
theorem dX8_lengthsOf_35 : decode cX8_lengthsOf 35 = .ok (.iconst 1, 1) := by decide +kernel
theorem dX8_lengthsOf_36 : decode cX8_lengthsOf 36 = .ok (.iand, 1) := by decide +kernel
theorem dX8_lengthsOf_37 : decode cX8_lengthsOf 37 = .ok (.ifCond .ne 29, 3) := by decide +kernel
theorem dX8_lengthsOf_40 : decode cX8_lengthsOf 40 = .ok (.iload 5, 2) := by decide +kernel
theorem dX8_lengthsOf_42 : decode cX8_lengthsOf 42 = .ok (.iconst 1, 1) := by decide +kernel
theorem dX8_lengthsOf_43 : decode cX8_lengthsOf 43 = .ok (.iload 8, 2) := by decide +kernel
theorem dX8_lengthsOf_45 : decode cX8_lengthsOf 45 = .ok (.ishl, 1) := by decide +kernel
theorem dX8_lengthsOf_46 : decode cX8_lengthsOf 46 = .ok (.ior, 1) := by decide +kernel
theorem dX8_lengthsOf_47 : decode cX8_lengthsOf 47 = .ok (.istore 5, 2) := by decide +kernel
theorem dX8_lengthsOf_49 : decode cX8_lengthsOf 49 = .ok (.lload_n 0, 1) := by decide +kernel
theorem dX8_lengthsOf_50 : decode cX8_lengthsOf 50 = .ok (.iload 8, 2) := by decide +kernel
theorem dX8_lengthsOf_52 : decode cX8_lengthsOf 52 = .ok (.invokestatic 18, 3) := by decide +kernel
theorem dX8_lengthsOf_55 : decode cX8_lengthsOf 55 = .ok (.istore 8, 2) := by decide +kernel
theorem dX8_lengthsOf_57 : decode cX8_lengthsOf 57 = .ok (.iinc 7 1, 3) := by decide +kernel
theorem dX8_lengthsOf_60 : decode cX8_lengthsOf 60 = .ok (.iinc 9 1, 3) := by decide +kernel
theorem dX8_lengthsOf_63 : decode cX8_lengthsOf 63 = .ok (.goto (-39), 3) := by decide +kernel
theorem dX8_lengthsOf_66 : decode cX8_lengthsOf 66 = .ok (.iload 7, 2) := by decide +kernel
theorem dX8_lengthsOf_68 : decode cX8_lengthsOf 68 = .ok (.ifCond .le 11, 3) := by decide +kernel
theorem dX8_lengthsOf_71 : decode cX8_lengthsOf 71 = .ok (.lload_n 3, 1) := by decide +kernel
theorem dX8_lengthsOf_72 : decode cX8_lengthsOf 72 = .ok (.iload 7, 2) := by decide +kernel
theorem dX8_lengthsOf_74 : decode cX8_lengthsOf 74 = .ok (.invokestatic 24, 3) := by decide +kernel
theorem dX8_lengthsOf_77 : decode cX8_lengthsOf 77 = .ok (.ladd, 1) := by decide +kernel
theorem dX8_lengthsOf_78 : decode cX8_lengthsOf 78 = .ok (.lstore_n 3, 1) := by decide +kernel
theorem dX8_lengthsOf_79 : decode cX8_lengthsOf 79 = .ok (.iinc 6 1, 3) := by decide +kernel
theorem dX8_lengthsOf_82 : decode cX8_lengthsOf 82 = .ok (.goto (-74), 3) := by decide +kernel
theorem dX8_lengthsOf_85 : decode cX8_lengthsOf 85 = .ok (.lload_n 3, 1) := by decide +kernel
theorem dX8_lengthsOf_86 : decode cX8_lengthsOf 86 = .ok (.lreturn, 1) := by decide +kernel
theorem dX8_total_0 : decode cX8_total 0 = .ok (.iconst 0, 1) := by decide +kernel
theorem dX8_total_1 : decode cX8_total 1 = .ok (.istore_n 2, 1) := by decide +kernel
theorem dX8_total_2 : decode cX8_total 2 = .ok (.iconst 1, 1) := by decide +kernel
theorem dX8_total_3 : decode cX8_total 3 = .ok (.istore_n 3, 1) := by decide +kernel
theorem dX8_total_4 : decode cX8_total 4 = .ok (.iload_n 3, 1) := by decide +kernel
theorem dX8_total_5 : decode cX8_total 5 = .ok (.bipush 12, 2) := by decide +kernel
theorem dX8_total_7 : decode cX8_total 7 = .ok (.if_icmp .gt 17, 3) := by decide +kernel
theorem dX8_total_10 : decode cX8_total 10 = .ok (.iload_n 2, 1) := by decide +kernel
theorem dX8_total_11 : decode cX8_total 11 = .ok (.lload_n 0, 1) := by decide +kernel
theorem dX8_total_12 : decode cX8_total 12 = .ok (.iload_n 3, 1) := by decide +kernel
theorem dX8_total_13 : decode cX8_total 13 = .ok (.invokestatic 28, 3) := by decide +kernel
theorem dX8_total_16 : decode cX8_total 16 = .ok (.iadd, 1) := by decide +kernel
theorem dX8_total_17 : decode cX8_total 17 = .ok (.istore_n 2, 1) := by decide +kernel
theorem dX8_total_18 : decode cX8_total 18 = .ok (.iinc 3 1, 3) := by decide +kernel
theorem dX8_total_21 : decode cX8_total 21 = .ok (.goto (-17), 3) := by decide +kernel
theorem dX8_total_24 : decode cX8_total 24 = .ok (.iload_n 2, 1) := by decide +kernel
theorem dX8_total_25 : decode cX8_total 25 = .ok (.ireturn, 1) := by decide +kernel
theorem dX8_lengthAt_0 : decode cX8_lengthAt 0 = .ok (.iload_n 2, 1) := by decide +kernel
theorem dX8_lengthAt_1 : decode cX8_lengthAt 1 = .ok (.ifCond .ge 6, 3) := by decide +kernel
theorem dX8_lengthAt_4 : decode cX8_lengthAt 4 = .ok (.ldc 31, 2) := by decide +kernel
theorem dX8_lengthAt_6 : decode cX8_lengthAt 6 = .ok (.ireturn, 1) := by decide +kernel
theorem dX8_lengthAt_7 : decode cX8_lengthAt 7 = .ok (.iconst 0, 1) := by decide +kernel
theorem dX8_lengthAt_8 : decode cX8_lengthAt 8 = .ok (.istore_n 3, 1) := by decide +kernel
theorem dX8_lengthAt_9 : decode cX8_lengthAt 9 = .ok (.bipush 12, 2) := by decide +kernel
theorem dX8_lengthAt_11 : decode cX8_lengthAt 11 = .ok (.istore 4, 2) := by decide +kernel
theorem dX8_lengthAt_13 : decode cX8_lengthAt 13 = .ok (.iload 4, 2) := by decide +kernel
theorem dX8_lengthAt_15 : decode cX8_lengthAt 15 = .ok (.iconst 1, 1) := by decide +kernel
theorem dX8_lengthAt_16 : decode cX8_lengthAt 16 = .ok (.if_icmp .lt 26, 3) := by decide +kernel
theorem dX8_lengthAt_19 : decode cX8_lengthAt 19 = .ok (.iload_n 3, 1) := by decide +kernel
theorem dX8_lengthAt_20 : decode cX8_lengthAt 20 = .ok (.lload_n 0, 1) := by decide +kernel
theorem dX8_lengthAt_21 : decode cX8_lengthAt 21 = .ok (.iload 4, 2) := by decide +kernel
theorem dX8_lengthAt_23 : decode cX8_lengthAt 23 = .ok (.invokestatic 28, 3) := by decide +kernel
theorem dX8_lengthAt_26 : decode cX8_lengthAt 26 = .ok (.iadd, 1) := by decide +kernel
theorem dX8_lengthAt_27 : decode cX8_lengthAt 27 = .ok (.istore_n 3, 1) := by decide +kernel
theorem dX8_lengthAt_28 : decode cX8_lengthAt 28 = .ok (.iload_n 2, 1) := by decide +kernel
theorem dX8_lengthAt_29 : decode cX8_lengthAt 29 = .ok (.iload_n 3, 1) := by decide +kernel
theorem dX8_lengthAt_30 : decode cX8_lengthAt 30 = .ok (.if_icmp .ge 6, 3) := by decide +kernel
theorem dX8_lengthAt_33 : decode cX8_lengthAt 33 = .ok (.iload 4, 2) := by decide +kernel
theorem dX8_lengthAt_35 : decode cX8_lengthAt 35 = .ok (.ireturn, 1) := by decide +kernel
theorem dX8_lengthAt_36 : decode cX8_lengthAt 36 = .ok (.iinc 4 (-1), 3) := by decide +kernel
theorem dX8_lengthAt_39 : decode cX8_lengthAt 39 = .ok (.goto (-26), 3) := by decide +kernel
theorem dX8_lengthAt_42 : decode cX8_lengthAt 42 = .ok (.ldc 31, 2) := by decide +kernel
theorem dX8_lengthAt_44 : decode cX8_lengthAt 44 = .ok (.ireturn, 1) := by decide +kernel
theorem dX8_lacks_0 : decode cX8_lacks 0 = .ok (.iload_n 1, 1) := by decide +kernel
theorem dX8_lacks_1 : decode cX8_lacks 1 = .ok (.ifCond .lt 11, 3) := by decide +kernel
theorem dX8_lacks_4 : decode cX8_lacks 4 = .ok (.iload_n 1, 1) := by decide +kernel
theorem dX8_lacks_5 : decode cX8_lacks 5 = .ok (.aload_n 0, 1) := by decide +kernel
theorem dX8_lacks_6 : decode cX8_lacks 6 = .ok (.getfield 32, 3) := by decide +kernel
theorem dX8_lacks_9 : decode cX8_lacks 9 = .ok (.if_icmp .lt 7, 3) := by decide +kernel
theorem dX8_lacks_12 : decode cX8_lacks 12 = .ok (.iconst 1, 1) := by decide +kernel
theorem dX8_lacks_13 : decode cX8_lacks 13 = .ok (.goto 4, 3) := by decide +kernel
theorem dX8_lacks_16 : decode cX8_lacks 16 = .ok (.iconst 0, 1) := by decide +kernel
theorem dX8_lacks_17 : decode cX8_lacks 17 = .ok (.ireturn, 1) := by decide +kernel
theorem dX8_lengthsAt_0 : decode cX8_lengthsAt 0 = .ok (.aload_n 0, 1) := by decide +kernel
theorem dX8_lengthsAt_1 : decode cX8_lengthsAt 1 = .ok (.iload_n 1, 1) := by decide +kernel
theorem dX8_lengthsAt_2 : decode cX8_lengthsAt 2 = .ok (.invokevirtual 36, 3) := by decide +kernel
theorem dX8_lengthsAt_5 : decode cX8_lengthsAt 5 = .ok (.ifCond .eq 7, 3) := by decide +kernel
theorem dX8_lengthsAt_8 : decode cX8_lengthsAt 8 = .ok (.lconst 0, 1) := by decide +kernel
theorem dX8_lengthsAt_9 : decode cX8_lengthsAt 9 = .ok (.goto 9, 3) := by decide +kernel
theorem dX8_lengthsAt_12 : decode cX8_lengthsAt 12 = .ok (.aload_n 0, 1) := by decide +kernel
theorem dX8_lengthsAt_13 : decode cX8_lengthsAt 13 = .ok (.getfield 11, 3) := by decide +kernel
theorem dX8_lengthsAt_16 : decode cX8_lengthsAt 16 = .ok (.iload_n 1, 1) := by decide +kernel
theorem dX8_lengthsAt_17 : decode cX8_lengthsAt 17 = .ok (.laload, 1) := by decide +kernel
theorem dX8_lengthsAt_18 : decode cX8_lengthsAt 18 = .ok (.lreturn, 1) := by decide +kernel
theorem dX8_rowsOf_0 : decode cX8_rowsOf 0 = .ok (.aload_n 0, 1) := by decide +kernel
theorem dX8_rowsOf_1 : decode cX8_rowsOf 1 = .ok (.iload_n 2, 1) := by decide +kernel
theorem dX8_rowsOf_2 : decode cX8_rowsOf 2 = .ok (.invokevirtual 36, 3) := by decide +kernel
theorem dX8_rowsOf_5 : decode cX8_rowsOf 5 = .ok (.ifCond .ne 13, 3) := by decide +kernel
theorem dX8_rowsOf_8 : decode cX8_rowsOf 8 = .ok (.iload_n 1, 1) := by decide +kernel
theorem dX8_rowsOf_9 : decode cX8_rowsOf 9 = .ok (.ifCond .lt 9, 3) := by decide +kernel
theorem dX8_rowsOf_12 : decode cX8_rowsOf 12 = .ok (.iload_n 1, 1) := by decide +kernel
theorem dX8_rowsOf_13 : decode cX8_rowsOf 13 = .ok (.bipush 9, 2) := by decide +kernel
theorem dX8_rowsOf_15 : decode cX8_rowsOf 15 = .ok (.if_icmp .le 7, 3) := by decide +kernel
theorem dX8_rowsOf_18 : decode cX8_rowsOf 18 = .ok (.lconst 0, 1) := by decide +kernel
theorem dX8_rowsOf_19 : decode cX8_rowsOf 19 = .ok (.goto 14, 3) := by decide +kernel
theorem dX8_rowsOf_22 : decode cX8_rowsOf 22 = .ok (.aload_n 0, 1) := by decide +kernel
theorem dX8_rowsOf_23 : decode cX8_rowsOf 23 = .ok (.getfield 15, 3) := by decide +kernel
theorem dX8_rowsOf_26 : decode cX8_rowsOf 26 = .ok (.iload_n 1, 1) := by decide +kernel
theorem dX8_rowsOf_27 : decode cX8_rowsOf 27 = .ok (.bipush 42, 2) := by decide +kernel
theorem dX8_rowsOf_29 : decode cX8_rowsOf 29 = .ok (.imul, 1) := by decide +kernel
theorem dX8_rowsOf_30 : decode cX8_rowsOf 30 = .ok (.iload_n 2, 1) := by decide +kernel
theorem dX8_rowsOf_31 : decode cX8_rowsOf 31 = .ok (.iadd, 1) := by decide +kernel
theorem dX8_rowsOf_32 : decode cX8_rowsOf 32 = .ok (.laload, 1) := by decide +kernel
theorem dX8_rowsOf_33 : decode cX8_rowsOf 33 = .ok (.lreturn, 1) := by decide +kernel
theorem dX8_prepare_0 : decode cX8_prepare 0 = .ok (.iload_n 1, 1) := by decide +kernel
theorem dX8_prepare_1 : decode cX8_prepare 1 = .ok (.aload_n 0, 1) := by decide +kernel
theorem dX8_prepare_2 : decode cX8_prepare 2 = .ok (.getfield 40, 3) := by decide +kernel
theorem dX8_prepare_5 : decode cX8_prepare 5 = .ok (.if_icmp .eq 14, 3) := by decide +kernel
theorem dX8_prepare_8 : decode cX8_prepare 8 = .ok (.iload_n 1, 1) := by decide +kernel
theorem dX8_prepare_9 : decode cX8_prepare 9 = .ok (.iconst 1, 1) := by decide +kernel
theorem dX8_prepare_10 : decode cX8_prepare 10 = .ok (.if_icmp .lt 9, 3) := by decide +kernel
theorem dX8_prepare_13 : decode cX8_prepare 13 = .ok (.iload_n 1, 1) := by decide +kernel
theorem dX8_prepare_14 : decode cX8_prepare 14 = .ok (.bipush 10, 2) := by decide +kernel
theorem dX8_prepare_16 : decode cX8_prepare 16 = .ok (.if_icmp .le 4, 3) := by decide +kernel
theorem dX8_prepare_19 : decode cX8_prepare 19 = .ok (.return_, 1) := by decide +kernel
theorem dX8_prepare_20 : decode cX8_prepare 20 = .ok (.aload_n 0, 1) := by decide +kernel
theorem dX8_prepare_21 : decode cX8_prepare 21 = .ok (.iload_n 1, 1) := by decide +kernel
theorem dX8_prepare_22 : decode cX8_prepare 22 = .ok (.putfield 40, 3) := by decide +kernel
theorem dX8_prepare_25 : decode cX8_prepare 25 = .ok (.aload_n 0, 1) := by decide +kernel
theorem dX8_prepare_26 : decode cX8_prepare 26 = .ok (.iload_n 1, 1) := by decide +kernel
theorem dX8_prepare_27 : decode cX8_prepare 27 = .ok (.invokevirtual 43, 3) := by decide +kernel
theorem dX8_prepare_30 : decode cX8_prepare 30 = .ok (.aload_n 0, 1) := by decide +kernel
theorem dX8_prepare_31 : decode cX8_prepare 31 = .ok (.getfield 15, 3) := by decide +kernel
theorem dX8_prepare_34 : decode cX8_prepare 34 = .ok (.lconst 0, 1) := by decide +kernel
theorem dX8_prepare_35 : decode cX8_prepare 35 = .ok (.invokestatic 47, 3) := by decide +kernel
theorem dX8_prepare_38 : decode cX8_prepare 38 = .ok (.aload_n 0, 1) := by decide +kernel
theorem dX8_prepare_39 : decode cX8_prepare 39 = .ok (.getfield 32, 3) := by decide +kernel
theorem dX8_prepare_42 : decode cX8_prepare 42 = .ok (.ifCond .le 15, 3) := by decide +kernel
theorem dX8_prepare_45 : decode cX8_prepare 45 = .ok (.aload_n 0, 1) := by decide +kernel
theorem dX8_prepare_46 : decode cX8_prepare 46 = .ok (.getfield 15, 3) := by decide +kernel
theorem dX8_prepare_49 : decode cX8_prepare 49 = .ok (.aload_n 0, 1) := by decide +kernel
theorem dX8_prepare_50 : decode cX8_prepare 50 = .ok (.getfield 32, 3) := by decide +kernel
theorem dX8_prepare_53 : decode cX8_prepare 53 = .ok (.iconst 1, 1) := by decide +kernel
theorem dX8_prepare_54 : decode cX8_prepare 54 = .ok (.isub, 1) := by decide +kernel
theorem dX8_prepare_55 : decode cX8_prepare 55 = .ok (.lconst 1, 1) := by decide +kernel
theorem dX8_prepare_56 : decode cX8_prepare 56 = .ok (.lastore, 1) := by decide +kernel
theorem dX8_prepare_57 : decode cX8_prepare 57 = .ok (.iconst 1, 1) := by decide +kernel
theorem dX8_prepare_58 : decode cX8_prepare 58 = .ok (.istore_n 2, 1) := by decide +kernel
theorem dX8_prepare_59 : decode cX8_prepare 59 = .ok (.iload_n 2, 1) := by decide +kernel
theorem dX8_prepare_60 : decode cX8_prepare 60 = .ok (.bipush 9, 2) := by decide +kernel
theorem dX8_prepare_62 : decode cX8_prepare 62 = .ok (.if_icmp .gt 50, 3) := by decide +kernel
theorem dX8_prepare_65 : decode cX8_prepare 65 = .ok (.iconst 0, 1) := by decide +kernel
theorem dX8_prepare_66 : decode cX8_prepare 66 = .ok (.istore_n 3, 1) := by decide +kernel
theorem dX8_prepare_67 : decode cX8_prepare 67 = .ok (.iload_n 3, 1) := by decide +kernel
theorem dX8_prepare_68 : decode cX8_prepare 68 = .ok (.aload_n 0, 1) := by decide +kernel
theorem dX8_prepare_69 : decode cX8_prepare 69 = .ok (.getfield 32, 3) := by decide +kernel
theorem dX8_prepare_72 : decode cX8_prepare 72 = .ok (.if_icmp .ge 34, 3) := by decide +kernel
theorem dX8_prepare_75 : decode cX8_prepare 75 = .ok (.aload_n 0, 1) := by decide +kernel
theorem dX8_prepare_76 : decode cX8_prepare 76 = .ok (.getfield 15, 3) := by decide +kernel
theorem dX8_prepare_79 : decode cX8_prepare 79 = .ok (.iload_n 2, 1) := by decide +kernel
theorem dX8_prepare_80 : decode cX8_prepare 80 = .ok (.bipush 42, 2) := by decide +kernel
theorem dX8_prepare_82 : decode cX8_prepare 82 = .ok (.imul, 1) := by decide +kernel
theorem dX8_prepare_83 : decode cX8_prepare 83 = .ok (.iload_n 3, 1) := by decide +kernel
theorem dX8_prepare_84 : decode cX8_prepare 84 = .ok (.iadd, 1) := by decide +kernel
theorem dX8_prepare_85 : decode cX8_prepare 85 = .ok (.aload_n 0, 1) := by decide +kernel
theorem dX8_prepare_86 : decode cX8_prepare 86 = .ok (.aload_n 0, 1) := by decide +kernel
theorem dX8_prepare_87 : decode cX8_prepare 87 = .ok (.getfield 11, 3) := by decide +kernel
theorem dX8_prepare_90 : decode cX8_prepare 90 = .ok (.iload_n 3, 1) := by decide +kernel
theorem dX8_prepare_91 : decode cX8_prepare 91 = .ok (.laload, 1) := by decide +kernel
theorem dX8_prepare_92 : decode cX8_prepare 92 = .ok (.iload_n 2, 1) := by decide +kernel
theorem dX8_prepare_93 : decode cX8_prepare 93 = .ok (.iconst 1, 1) := by decide +kernel
theorem dX8_prepare_94 : decode cX8_prepare 94 = .ok (.isub, 1) := by decide +kernel
theorem dX8_prepare_95 : decode cX8_prepare 95 = .ok (.iload_n 1, 1) := by decide +kernel
theorem dX8_prepare_96 : decode cX8_prepare 96 = .ok (.invokevirtual 53, 3) := by decide +kernel
theorem dX8_prepare_99 : decode cX8_prepare 99 = .ok (.lastore, 1) := by decide +kernel
theorem dX8_prepare_100 : decode cX8_prepare 100 = .ok (.iinc 3 1, 3) := by decide +kernel
theorem dX8_prepare_103 : decode cX8_prepare 103 = .ok (.goto (-36), 3) := by decide +kernel
theorem dX8_prepare_106 : decode cX8_prepare 106 = .ok (.iinc 2 1, 3) := by decide +kernel
theorem dX8_prepare_109 : decode cX8_prepare 109 = .ok (.goto (-50), 3) := by decide +kernel
theorem dX8_prepare_112 : decode cX8_prepare 112 = .ok (.return_, 1) := by decide +kernel
theorem dX8_listAll_0 : decode cX8_listAll 0 = .ok (.iload_n 1, 1) := by decide +kernel
theorem dX8_listAll_1 : decode cX8_listAll 1 = .ok (.invokestatic 24, 3) := by decide +kernel
theorem dX8_listAll_4 : decode cX8_listAll 4 = .ok (.lstore_n 2, 1) := by decide +kernel
theorem dX8_listAll_5 : decode cX8_listAll 5 = .ok (.aload_n 0, 1) := by decide +kernel
theorem dX8_listAll_6 : decode cX8_listAll 6 = .ok (.iconst 0, 1) := by decide +kernel
theorem dX8_listAll_7 : decode cX8_listAll 7 = .ok (.putfield 32, 3) := by decide +kernel
theorem dX8_listAll_10 : decode cX8_listAll 10 = .ok (.iconst 0, 1) := by decide +kernel
theorem dX8_listAll_11 : decode cX8_listAll 11 = .ok (.istore 4, 2) := by decide +kernel
theorem dX8_listAll_13 : decode cX8_listAll 13 = .ok (.iload 4, 2) := by decide +kernel
theorem dX8_listAll_15 : decode cX8_listAll 15 = .ok (.bipush 42, 2) := by decide +kernel
theorem dX8_listAll_17 : decode cX8_listAll 17 = .ok (.if_icmp .ge 40, 3) := by decide +kernel
theorem dX8_listAll_20 : decode cX8_listAll 20 = .ok (.lload_n 2, 1) := by decide +kernel
theorem dX8_listAll_21 : decode cX8_listAll 21 = .ok (.lconst 0, 1) := by decide +kernel
theorem dX8_listAll_22 : decode cX8_listAll 22 = .ok (.lcmp, 1) := by decide +kernel
theorem dX8_listAll_23 : decode cX8_listAll 23 = .ok (.ifCond .eq 34, 3) := by decide +kernel
theorem dX8_listAll_26 : decode cX8_listAll 26 = .ok (.aload_n 0, 1) := by decide +kernel
theorem dX8_listAll_27 : decode cX8_listAll 27 = .ok (.getfield 11, 3) := by decide +kernel
theorem dX8_listAll_30 : decode cX8_listAll 30 = .ok (.iload 4, 2) := by decide +kernel
theorem dX8_listAll_32 : decode cX8_listAll 32 = .ok (.lload_n 2, 1) := by decide +kernel
theorem dX8_listAll_33 : decode cX8_listAll 33 = .ok (.lastore, 1) := by decide +kernel
theorem dX8_listAll_34 : decode cX8_listAll 34 = .ok (.aload_n 0, 1) := by decide +kernel
theorem dX8_listAll_35 : decode cX8_listAll 35 = .ok (.dup, 1) := by decide +kernel
theorem dX8_listAll_36 : decode cX8_listAll 36 = .ok (.getfield 32, 3) := by decide +kernel
theorem dX8_listAll_39 : decode cX8_listAll 39 = .ok (.iconst 1, 1) := by decide +kernel
theorem dX8_listAll_40 : decode cX8_listAll 40 = .ok (.iadd, 1) := by decide +kernel
theorem dX8_listAll_41 : decode cX8_listAll 41 = .ok (.putfield 32, 3) := by decide +kernel
theorem dX8_listAll_44 : decode cX8_listAll 44 = .ok (.aload_n 0, 1) := by decide +kernel
theorem dX8_listAll_45 : decode cX8_listAll 45 = .ok (.lload_n 2, 1) := by decide +kernel
theorem dX8_listAll_46 : decode cX8_listAll 46 = .ok (.iload_n 1, 1) := by decide +kernel
theorem dX8_listAll_47 : decode cX8_listAll 47 = .ok (.invokevirtual 57, 3) := by decide +kernel
theorem dX8_listAll_50 : decode cX8_listAll 50 = .ok (.lstore_n 2, 1) := by decide +kernel
theorem dX8_listAll_51 : decode cX8_listAll 51 = .ok (.iinc 4 1, 3) := by decide +kernel
theorem dX8_listAll_54 : decode cX8_listAll 54 = .ok (.goto (-41), 3) := by decide +kernel
theorem dX8_listAll_57 : decode cX8_listAll 57 = .ok (.return_, 1) := by decide +kernel
theorem dX8_nextBelow_0 : decode cX8_nextBelow 0 = .ok (.lload_n 1, 1) := by decide +kernel
theorem dX8_nextBelow_1 : decode cX8_nextBelow 1 = .ok (.iconst 1, 1) := by decide +kernel
theorem dX8_nextBelow_2 : decode cX8_nextBelow 2 = .ok (.invokestatic 28, 3) := by decide +kernel
theorem dX8_nextBelow_5 : decode cX8_nextBelow 5 = .ok (.istore 4, 2) := by decide +kernel
theorem dX8_nextBelow_7 : decode cX8_nextBelow 7 = .ok (.iconst 2, 1) := by decide +kernel
theorem dX8_nextBelow_8 : decode cX8_nextBelow 8 = .ok (.istore 5, 2) := by decide +kernel
theorem dX8_nextBelow_10 : decode cX8_nextBelow 10 = .ok (.iload 5, 2) := by decide +kernel
theorem dX8_nextBelow_12 : decode cX8_nextBelow 12 = .ok (.iload_n 3, 1) := by decide +kernel
theorem dX8_nextBelow_13 : decode cX8_nextBelow 13 = .ok (.if_icmp .gt 92, 3) := by decide +kernel
theorem dX8_nextBelow_16 : decode cX8_nextBelow 16 = .ok (.lload_n 1, 1) := by decide +kernel
theorem dX8_nextBelow_17 : decode cX8_nextBelow 17 = .ok (.iload 5, 2) := by decide +kernel
theorem dX8_nextBelow_19 : decode cX8_nextBelow 19 = .ok (.invokestatic 28, 3) := by decide +kernel
theorem dX8_nextBelow_22 : decode cX8_nextBelow 22 = .ok (.ifCond .le 77, 3) := by decide +kernel
theorem dX8_nextBelow_25 : decode cX8_nextBelow 25 = .ok (.iload 5, 2) := by decide +kernel
theorem dX8_nextBelow_27 : decode cX8_nextBelow 27 = .ok (.iload 4, 2) := by decide +kernel
theorem dX8_nextBelow_29 : decode cX8_nextBelow 29 = .ok (.iadd, 1) := by decide +kernel
theorem dX8_nextBelow_30 : decode cX8_nextBelow 30 = .ok (.istore 6, 2) := by decide +kernel
theorem dX8_nextBelow_32 : decode cX8_nextBelow 32 = .ok (.iload 6, 2) := by decide +kernel
theorem dX8_nextBelow_34 : decode cX8_nextBelow 34 = .ok (.iload 5, 2) := by decide +kernel
theorem dX8_nextBelow_36 : decode cX8_nextBelow 36 = .ok (.iconst 1, 1) := by decide +kernel
theorem dX8_nextBelow_37 : decode cX8_nextBelow 37 = .ok (.isub, 1) := by decide +kernel
theorem dX8_nextBelow_38 : decode cX8_nextBelow 38 = .ok (.irem, 1) := by decide +kernel
theorem dX8_nextBelow_39 : decode cX8_nextBelow 39 = .ok (.istore 7, 2) := by decide +kernel
theorem dX8_nextBelow_41 : decode cX8_nextBelow 41 = .ok (.lload_n 1, 1) := by decide +kernel
theorem dX8_nextBelow_42 : decode cX8_nextBelow 42 = .ok (.iload 5, 2) := by decide +kernel
theorem dX8_nextBelow_44 : decode cX8_nextBelow 44 = .ok (.invokestatic 24, 3) := by decide +kernel
theorem dX8_nextBelow_47 : decode cX8_nextBelow 47 = .ok (.lsub, 1) := by decide +kernel
theorem dX8_nextBelow_48 : decode cX8_nextBelow 48 = .ok (.iload 4, 2) := by decide +kernel
theorem dX8_nextBelow_50 : decode cX8_nextBelow 50 = .ok (.i2l, 1) := by decide +kernel
theorem dX8_nextBelow_51 : decode cX8_nextBelow 51 = .ok (.iconst 1, 1) := by decide +kernel
theorem dX8_nextBelow_52 : decode cX8_nextBelow 52 = .ok (.invokestatic 24, 3) := by decide +kernel
theorem dX8_nextBelow_55 : decode cX8_nextBelow 55 = .ok (.lmul, 1) := by decide +kernel
theorem dX8_nextBelow_56 : decode cX8_nextBelow 56 = .ok (.lsub, 1) := by decide +kernel
theorem dX8_nextBelow_57 : decode cX8_nextBelow 57 = .ok (.lstore 8, 2) := by decide +kernel
theorem dX8_nextBelow_59 : decode cX8_nextBelow 59 = .ok (.lload 8, 2) := by decide +kernel
theorem dX8_nextBelow_61 : decode cX8_nextBelow 61 = .ok (.iload 6, 2) := by decide +kernel
theorem dX8_nextBelow_63 : decode cX8_nextBelow 63 = .ok (.iload 5, 2) := by decide +kernel
theorem dX8_nextBelow_65 : decode cX8_nextBelow 65 = .ok (.iconst 1, 1) := by decide +kernel
theorem dX8_nextBelow_66 : decode cX8_nextBelow 66 = .ok (.isub, 1) := by decide +kernel
theorem dX8_nextBelow_67 : decode cX8_nextBelow 67 = .ok (.idiv, 1) := by decide +kernel
theorem dX8_nextBelow_68 : decode cX8_nextBelow 68 = .ok (.i2l, 1) := by decide +kernel
theorem dX8_nextBelow_69 : decode cX8_nextBelow 69 = .ok (.iload 5, 2) := by decide +kernel
theorem dX8_nextBelow_71 : decode cX8_nextBelow 71 = .ok (.iconst 1, 1) := by decide +kernel
theorem dX8_nextBelow_72 : decode cX8_nextBelow 72 = .ok (.isub, 1) := by decide +kernel
theorem dX8_nextBelow_73 : decode cX8_nextBelow 73 = .ok (.invokestatic 24, 3) := by decide +kernel
theorem dX8_nextBelow_76 : decode cX8_nextBelow 76 = .ok (.lmul, 1) := by decide +kernel
theorem dX8_nextBelow_77 : decode cX8_nextBelow 77 = .ok (.ladd, 1) := by decide +kernel
theorem dX8_nextBelow_78 : decode cX8_nextBelow 78 = .ok (.lstore 8, 2) := by decide +kernel
theorem dX8_nextBelow_80 : decode cX8_nextBelow 80 = .ok (.iload 7, 2) := by decide +kernel
theorem dX8_nextBelow_82 : decode cX8_nextBelow 82 = .ok (.ifCond .le 14, 3) := by decide +kernel
theorem dX8_nextBelow_85 : decode cX8_nextBelow 85 = .ok (.lload 8, 2) := by decide +kernel
theorem dX8_nextBelow_87 : decode cX8_nextBelow 87 = .ok (.iload 7, 2) := by decide +kernel
theorem dX8_nextBelow_89 : decode cX8_nextBelow 89 = .ok (.invokestatic 24, 3) := by decide +kernel
theorem dX8_nextBelow_92 : decode cX8_nextBelow 92 = .ok (.ladd, 1) := by decide +kernel
theorem dX8_nextBelow_93 : decode cX8_nextBelow 93 = .ok (.goto 5, 3) := by decide +kernel
theorem dX8_nextBelow_96 : decode cX8_nextBelow 96 = .ok (.lload 8, 2) := by decide +kernel
theorem dX8_nextBelow_98 : decode cX8_nextBelow 98 = .ok (.lreturn, 1) := by decide +kernel
theorem dX8_nextBelow_99 : decode cX8_nextBelow 99 = .ok (.iinc 5 1, 3) := by decide +kernel
theorem dX8_nextBelow_102 : decode cX8_nextBelow 102 = .ok (.goto (-92), 3) := by decide +kernel
theorem dX8_nextBelow_105 : decode cX8_nextBelow 105 = .ok (.lconst 0, 1) := by decide +kernel
theorem dX8_nextBelow_106 : decode cX8_nextBelow 106 = .ok (.lreturn, 1) := by decide +kernel
theorem dX8_cutAndJoined_0 : decode cX8_cutAndJoined 0 = .ok (.lconst 0, 1) := by decide +kernel
theorem dX8_cutAndJoined_1 : decode cX8_cutAndJoined 1 = .ok (.lstore 5, 2) := by decide +kernel
theorem dX8_cutAndJoined_3 : decode cX8_cutAndJoined 3 = .ok (.iconst 1, 1) := by decide +kernel
theorem dX8_cutAndJoined_4 : decode cX8_cutAndJoined 4 = .ok (.istore 7, 2) := by decide +kernel
theorem dX8_cutAndJoined_6 : decode cX8_cutAndJoined 6 = .ok (.iload 7, 2) := by decide +kernel
theorem dX8_cutAndJoined_8 : decode cX8_cutAndJoined 8 = .ok (.iload 4, 2) := by decide +kernel
theorem dX8_cutAndJoined_10 : decode cX8_cutAndJoined 10 = .ok (.if_icmp .gt 144, 3) := by decide +kernel
theorem dX8_cutAndJoined_13 : decode cX8_cutAndJoined 13 = .ok (.lload_n 1, 1) := by decide +kernel
theorem dX8_cutAndJoined_14 : decode cX8_cutAndJoined 14 = .ok (.iload 7, 2) := by decide +kernel
theorem dX8_cutAndJoined_16 : decode cX8_cutAndJoined 16 = .ok (.invokestatic 28, 3) := by decide +kernel
theorem dX8_cutAndJoined_19 : decode cX8_cutAndJoined 19 = .ok (.istore 8, 2) := by decide +kernel
theorem dX8_cutAndJoined_21 : decode cX8_cutAndJoined 21 = .ok (.iload 8, 2) := by decide +kernel
theorem dX8_cutAndJoined_23 : decode cX8_cutAndJoined 23 = .ok (.ifCond .ne 6, 3) := by decide +kernel
theorem dX8_cutAndJoined_26 : decode cX8_cutAndJoined 26 = .ok (.goto 122, 3) := by decide +kernel
theorem dX8_cutAndJoined_29 : decode cX8_cutAndJoined 29 = .ok (.lload 5, 2) := by decide +kernel
theorem dX8_cutAndJoined_31 : decode cX8_cutAndJoined 31 = .ok (.iload 8, 2) := by decide +kernel
theorem dX8_cutAndJoined_33 : decode cX8_cutAndJoined 33 = .ok (.i2l, 1) := by decide +kernel
theorem dX8_cutAndJoined_34 : decode cX8_cutAndJoined 34 = .ok (.aload_n 0, 1) := by decide +kernel
theorem dX8_cutAndJoined_35 : decode cX8_cutAndJoined 35 = .ok (.lload_n 1, 1) := by decide +kernel
theorem dX8_cutAndJoined_36 : decode cX8_cutAndJoined 36 = .ok (.iload 7, 2) := by decide +kernel
theorem dX8_cutAndJoined_38 : decode cX8_cutAndJoined 38 = .ok (.iload_n 3, 1) := by decide +kernel
theorem dX8_cutAndJoined_39 : decode cX8_cutAndJoined 39 = .ok (.invokevirtual 61, 3) := by decide +kernel
theorem dX8_cutAndJoined_42 : decode cX8_cutAndJoined 42 = .ok (.lmul, 1) := by decide +kernel
theorem dX8_cutAndJoined_43 : decode cX8_cutAndJoined 43 = .ok (.ladd, 1) := by decide +kernel
theorem dX8_cutAndJoined_44 : decode cX8_cutAndJoined 44 = .ok (.lstore 5, 2) := by decide +kernel
theorem dX8_cutAndJoined_46 : decode cX8_cutAndJoined 46 = .ok (.iload 7, 2) := by decide +kernel
theorem dX8_cutAndJoined_48 : decode cX8_cutAndJoined 48 = .ok (.istore 9, 2) := by decide +kernel
theorem dX8_cutAndJoined_50 : decode cX8_cutAndJoined 50 = .ok (.iload 9, 2) := by decide +kernel
theorem dX8_cutAndJoined_52 : decode cX8_cutAndJoined 52 = .ok (.iload 4, 2) := by decide +kernel
theorem dX8_cutAndJoined_54 : decode cX8_cutAndJoined 54 = .ok (.if_icmp .gt 94, 3) := by decide +kernel
theorem dX8_cutAndJoined_57 : decode cX8_cutAndJoined 57 = .ok (.iload 7, 2) := by decide +kernel
theorem dX8_cutAndJoined_59 : decode cX8_cutAndJoined 59 = .ok (.iload 9, 2) := by decide +kernel
theorem dX8_cutAndJoined_61 : decode cX8_cutAndJoined 61 = .ok (.if_icmp .ne 15, 3) := by decide +kernel
theorem dX8_cutAndJoined_64 : decode cX8_cutAndJoined 64 = .ok (.iload 8, 2) := by decide +kernel
theorem dX8_cutAndJoined_66 : decode cX8_cutAndJoined 66 = .ok (.iload 8, 2) := by decide +kernel
theorem dX8_cutAndJoined_68 : decode cX8_cutAndJoined 68 = .ok (.iconst 1, 1) := by decide +kernel
theorem dX8_cutAndJoined_69 : decode cX8_cutAndJoined 69 = .ok (.isub, 1) := by decide +kernel
theorem dX8_cutAndJoined_70 : decode cX8_cutAndJoined 70 = .ok (.imul, 1) := by decide +kernel
theorem dX8_cutAndJoined_71 : decode cX8_cutAndJoined 71 = .ok (.iconst 2, 1) := by decide +kernel
theorem dX8_cutAndJoined_72 : decode cX8_cutAndJoined 72 = .ok (.idiv, 1) := by decide +kernel
theorem dX8_cutAndJoined_73 : decode cX8_cutAndJoined 73 = .ok (.goto 12, 3) := by decide +kernel
theorem dX8_cutAndJoined_76 : decode cX8_cutAndJoined 76 = .ok (.iload 8, 2) := by decide +kernel
theorem dX8_cutAndJoined_78 : decode cX8_cutAndJoined 78 = .ok (.lload_n 1, 1) := by decide +kernel
theorem dX8_cutAndJoined_79 : decode cX8_cutAndJoined 79 = .ok (.iload 9, 2) := by decide +kernel
theorem dX8_cutAndJoined_81 : decode cX8_cutAndJoined 81 = .ok (.invokestatic 28, 3) := by decide +kernel
theorem dX8_cutAndJoined_84 : decode cX8_cutAndJoined 84 = .ok (.imul, 1) := by decide +kernel
theorem dX8_cutAndJoined_85 : decode cX8_cutAndJoined 85 = .ok (.istore 10, 2) := by decide +kernel
theorem dX8_cutAndJoined_87 : decode cX8_cutAndJoined 87 = .ok (.iload 10, 2) := by decide +kernel
theorem dX8_cutAndJoined_89 : decode cX8_cutAndJoined 89 = .ok (.ifCond .le 53, 3) := by decide +kernel
theorem dX8_cutAndJoined_92 : decode cX8_cutAndJoined 92 = .ok (.lload_n 1, 1) := by decide +kernel
theorem dX8_cutAndJoined_93 : decode cX8_cutAndJoined 93 = .ok (.iload 7, 2) := by decide +kernel
theorem dX8_cutAndJoined_95 : decode cX8_cutAndJoined 95 = .ok (.invokestatic 24, 3) := by decide +kernel
theorem dX8_cutAndJoined_98 : decode cX8_cutAndJoined 98 = .ok (.lsub, 1) := by decide +kernel
theorem dX8_cutAndJoined_99 : decode cX8_cutAndJoined 99 = .ok (.iload 9, 2) := by decide +kernel
theorem dX8_cutAndJoined_101 : decode cX8_cutAndJoined 101 = .ok (.invokestatic 24, 3) := by decide +kernel
theorem dX8_cutAndJoined_104 : decode cX8_cutAndJoined 104 = .ok (.lsub, 1) := by decide +kernel
theorem dX8_cutAndJoined_105 : decode cX8_cutAndJoined 105 = .ok (.iload 7, 2) := by decide +kernel
theorem dX8_cutAndJoined_107 : decode cX8_cutAndJoined 107 = .ok (.iload 9, 2) := by decide +kernel
theorem dX8_cutAndJoined_109 : decode cX8_cutAndJoined 109 = .ok (.iadd, 1) := by decide +kernel
theorem dX8_cutAndJoined_110 : decode cX8_cutAndJoined 110 = .ok (.invokestatic 24, 3) := by decide +kernel
theorem dX8_cutAndJoined_113 : decode cX8_cutAndJoined 113 = .ok (.ladd, 1) := by decide +kernel
theorem dX8_cutAndJoined_114 : decode cX8_cutAndJoined 114 = .ok (.lstore 11, 2) := by decide +kernel
theorem dX8_cutAndJoined_116 : decode cX8_cutAndJoined 116 = .ok (.lload 5, 2) := by decide +kernel
theorem dX8_cutAndJoined_118 : decode cX8_cutAndJoined 118 = .ok (.iload 10, 2) := by decide +kernel
theorem dX8_cutAndJoined_120 : decode cX8_cutAndJoined 120 = .ok (.iload 7, 2) := by decide +kernel
theorem dX8_cutAndJoined_122 : decode cX8_cutAndJoined 122 = .ok (.imul, 1) := by decide +kernel
theorem dX8_cutAndJoined_123 : decode cX8_cutAndJoined 123 = .ok (.iload 9, 2) := by decide +kernel
theorem dX8_cutAndJoined_125 : decode cX8_cutAndJoined 125 = .ok (.imul, 1) := by decide +kernel
theorem dX8_cutAndJoined_126 : decode cX8_cutAndJoined 126 = .ok (.i2l, 1) := by decide +kernel
theorem dX8_cutAndJoined_127 : decode cX8_cutAndJoined 127 = .ok (.aload_n 0, 1) := by decide +kernel
theorem dX8_cutAndJoined_128 : decode cX8_cutAndJoined 128 = .ok (.iload_n 3, 1) := by decide +kernel
theorem dX8_cutAndJoined_129 : decode cX8_cutAndJoined 129 = .ok (.aload_n 0, 1) := by decide +kernel
theorem dX8_cutAndJoined_130 : decode cX8_cutAndJoined 130 = .ok (.lload 11, 2) := by decide +kernel
theorem dX8_cutAndJoined_132 : decode cX8_cutAndJoined 132 = .ok (.invokevirtual 64, 3) := by decide +kernel
theorem dX8_cutAndJoined_135 : decode cX8_cutAndJoined 135 = .ok (.invokevirtual 68, 3) := by decide +kernel
theorem dX8_cutAndJoined_138 : decode cX8_cutAndJoined 138 = .ok (.lmul, 1) := by decide +kernel
theorem dX8_cutAndJoined_139 : decode cX8_cutAndJoined 139 = .ok (.ladd, 1) := by decide +kernel
theorem dX8_cutAndJoined_140 : decode cX8_cutAndJoined 140 = .ok (.lstore 5, 2) := by decide +kernel
theorem dX8_cutAndJoined_142 : decode cX8_cutAndJoined 142 = .ok (.iinc 9 1, 3) := by decide +kernel
theorem dX8_cutAndJoined_145 : decode cX8_cutAndJoined 145 = .ok (.goto (-95), 3) := by decide +kernel
theorem dX8_cutAndJoined_148 : decode cX8_cutAndJoined 148 = .ok (.iinc 7 1, 3) := by decide +kernel
theorem dX8_cutAndJoined_151 : decode cX8_cutAndJoined 151 = .ok (.goto (-145), 3) := by decide +kernel
theorem dX8_cutAndJoined_154 : decode cX8_cutAndJoined 154 = .ok (.lload 5, 2) := by decide +kernel
theorem dX8_cutAndJoined_156 : decode cX8_cutAndJoined 156 = .ok (.lreturn, 1) := by decide +kernel
theorem dX8_cut_0 : decode cX8_cut 0 = .ok (.lconst 0, 1) := by decide +kernel
theorem dX8_cut_1 : decode cX8_cut 1 = .ok (.lstore 5, 2) := by decide +kernel
theorem dX8_cut_3 : decode cX8_cut 3 = .ok (.iconst 1, 1) := by decide +kernel
theorem dX8_cut_4 : decode cX8_cut 4 = .ok (.istore 7, 2) := by decide +kernel
theorem dX8_cut_6 : decode cX8_cut 6 = .ok (.iconst 2, 1) := by decide +kernel
theorem dX8_cut_7 : decode cX8_cut 7 = .ok (.iload 7, 2) := by decide +kernel
theorem dX8_cut_9 : decode cX8_cut 9 = .ok (.imul, 1) := by decide +kernel
theorem dX8_cut_10 : decode cX8_cut 10 = .ok (.iload_n 3, 1) := by decide +kernel
theorem dX8_cut_11 : decode cX8_cut 11 = .ok (.if_icmp .gt 68, 3) := by decide +kernel
theorem dX8_cut_14 : decode cX8_cut 14 = .ok (.iconst 2, 1) := by decide +kernel
theorem dX8_cut_15 : decode cX8_cut 15 = .ok (.iload 7, 2) := by decide +kernel
theorem dX8_cut_17 : decode cX8_cut 17 = .ok (.imul, 1) := by decide +kernel
theorem dX8_cut_18 : decode cX8_cut 18 = .ok (.iload_n 3, 1) := by decide +kernel
theorem dX8_cut_19 : decode cX8_cut 19 = .ok (.if_icmp .ne 8, 3) := by decide +kernel
theorem dX8_cut_22 : decode cX8_cut 22 = .ok (.iload 7, 2) := by decide +kernel
theorem dX8_cut_24 : decode cX8_cut 24 = .ok (.goto 4, 3) := by decide +kernel
theorem dX8_cut_27 : decode cX8_cut 27 = .ok (.iload_n 3, 1) := by decide +kernel
theorem dX8_cut_28 : decode cX8_cut 28 = .ok (.istore 8, 2) := by decide +kernel
theorem dX8_cut_30 : decode cX8_cut 30 = .ok (.lload_n 1, 1) := by decide +kernel
theorem dX8_cut_31 : decode cX8_cut 31 = .ok (.iload_n 3, 1) := by decide +kernel
theorem dX8_cut_32 : decode cX8_cut 32 = .ok (.invokestatic 24, 3) := by decide +kernel
theorem dX8_cut_35 : decode cX8_cut 35 = .ok (.lsub, 1) := by decide +kernel
theorem dX8_cut_36 : decode cX8_cut 36 = .ok (.iload 7, 2) := by decide +kernel
theorem dX8_cut_38 : decode cX8_cut 38 = .ok (.invokestatic 24, 3) := by decide +kernel
theorem dX8_cut_41 : decode cX8_cut 41 = .ok (.ladd, 1) := by decide +kernel
theorem dX8_cut_42 : decode cX8_cut 42 = .ok (.iload_n 3, 1) := by decide +kernel
theorem dX8_cut_43 : decode cX8_cut 43 = .ok (.iload 7, 2) := by decide +kernel
theorem dX8_cut_45 : decode cX8_cut 45 = .ok (.isub, 1) := by decide +kernel
theorem dX8_cut_46 : decode cX8_cut 46 = .ok (.invokestatic 24, 3) := by decide +kernel
theorem dX8_cut_49 : decode cX8_cut 49 = .ok (.ladd, 1) := by decide +kernel
theorem dX8_cut_50 : decode cX8_cut 50 = .ok (.lstore 9, 2) := by decide +kernel
theorem dX8_cut_52 : decode cX8_cut 52 = .ok (.lload 5, 2) := by decide +kernel
theorem dX8_cut_54 : decode cX8_cut 54 = .ok (.iload 8, 2) := by decide +kernel
theorem dX8_cut_56 : decode cX8_cut 56 = .ok (.i2l, 1) := by decide +kernel
theorem dX8_cut_57 : decode cX8_cut 57 = .ok (.aload_n 0, 1) := by decide +kernel
theorem dX8_cut_58 : decode cX8_cut 58 = .ok (.iload 4, 2) := by decide +kernel
theorem dX8_cut_60 : decode cX8_cut 60 = .ok (.aload_n 0, 1) := by decide +kernel
theorem dX8_cut_61 : decode cX8_cut 61 = .ok (.lload 9, 2) := by decide +kernel
theorem dX8_cut_63 : decode cX8_cut 63 = .ok (.invokevirtual 64, 3) := by decide +kernel
theorem dX8_cut_66 : decode cX8_cut 66 = .ok (.invokevirtual 68, 3) := by decide +kernel
theorem dX8_cut_69 : decode cX8_cut 69 = .ok (.lmul, 1) := by decide +kernel
theorem dX8_cut_70 : decode cX8_cut 70 = .ok (.ladd, 1) := by decide +kernel
theorem dX8_cut_71 : decode cX8_cut 71 = .ok (.lstore 5, 2) := by decide +kernel
theorem dX8_cut_73 : decode cX8_cut 73 = .ok (.iinc 7 1, 3) := by decide +kernel
theorem dX8_cut_76 : decode cX8_cut 76 = .ok (.goto (-70), 3) := by decide +kernel
theorem dX8_cut_79 : decode cX8_cut 79 = .ok (.lload 5, 2) := by decide +kernel
theorem dX8_cut_81 : decode cX8_cut 81 = .ok (.lreturn, 1) := by decide +kernel
theorem dX8_indexOf_0 : decode cX8_indexOf 0 = .ok (.iconst 0, 1) := by decide +kernel
theorem dX8_indexOf_1 : decode cX8_indexOf 1 = .ok (.istore_n 3, 1) := by decide +kernel
theorem dX8_indexOf_2 : decode cX8_indexOf 2 = .ok (.iload_n 3, 1) := by decide +kernel
theorem dX8_indexOf_3 : decode cX8_indexOf 3 = .ok (.aload_n 0, 1) := by decide +kernel
theorem dX8_indexOf_4 : decode cX8_indexOf 4 = .ok (.getfield 32, 3) := by decide +kernel
theorem dX8_indexOf_7 : decode cX8_indexOf 7 = .ok (.if_icmp .ge 22, 3) := by decide +kernel
theorem dX8_indexOf_10 : decode cX8_indexOf 10 = .ok (.aload_n 0, 1) := by decide +kernel
theorem dX8_indexOf_11 : decode cX8_indexOf 11 = .ok (.getfield 11, 3) := by decide +kernel
theorem dX8_indexOf_14 : decode cX8_indexOf 14 = .ok (.iload_n 3, 1) := by decide +kernel
theorem dX8_indexOf_15 : decode cX8_indexOf 15 = .ok (.laload, 1) := by decide +kernel
theorem dX8_indexOf_16 : decode cX8_indexOf 16 = .ok (.lload_n 1, 1) := by decide +kernel
theorem dX8_indexOf_17 : decode cX8_indexOf 17 = .ok (.lcmp, 1) := by decide +kernel
theorem dX8_indexOf_18 : decode cX8_indexOf 18 = .ok (.ifCond .ne 5, 3) := by decide +kernel
theorem dX8_indexOf_21 : decode cX8_indexOf 21 = .ok (.iload_n 3, 1) := by decide +kernel
theorem dX8_indexOf_22 : decode cX8_indexOf 22 = .ok (.ireturn, 1) := by decide +kernel
theorem dX8_indexOf_23 : decode cX8_indexOf 23 = .ok (.iinc 3 1, 3) := by decide +kernel
theorem dX8_indexOf_26 : decode cX8_indexOf 26 = .ok (.goto (-24), 3) := by decide +kernel
theorem dX8_indexOf_29 : decode cX8_indexOf 29 = .ok (.ldc 31, 2) := by decide +kernel
theorem dX8_indexOf_31 : decode cX8_indexOf 31 = .ok (.ireturn, 1) := by decide +kernel
theorem dX9_init_0 : decode cX9_init 0 = .ok (.aload_n 0, 1) := by decide +kernel
theorem dX9_init_1 : decode cX9_init 1 = .ok (.iload_n 1, 1) := by decide +kernel
theorem dX9_init_2 : decode cX9_init 2 = .ok (.aload_n 2, 1) := by decide +kernel
theorem dX9_init_3 : decode cX9_init 3 = .ok (.iload_n 3, 1) := by decide +kernel
theorem dX9_init_4 : decode cX9_init 4 = .ok (.invokespecial 1, 3) := by decide +kernel
theorem dX9_init_7 : decode cX9_init 7 = .ok (.return_, 1) := by decide +kernel
theorem dX9_kindNumber_0 : decode cX9_kindNumber 0 = .ok (.iconst 1, 1) := by decide +kernel
theorem dX9_kindNumber_1 : decode cX9_kindNumber 1 = .ok (.ireturn, 1) := by decide +kernel
theorem dX9_sizeAsked_0 : decode cX9_sizeAsked 0 = .ok (.aload_n 1, 1) := by decide +kernel
theorem dX9_sizeAsked_1 : decode cX9_sizeAsked 1 = .ok (.bipush 11, 2) := by decide +kernel
theorem dX9_sizeAsked_3 : decode cX9_sizeAsked 3 = .ok (.invokevirtual 7, 3) := by decide +kernel
theorem dX9_sizeAsked_6 : decode cX9_sizeAsked 6 = .ok (.aload_n 0, 1) := by decide +kernel
theorem dX9_sizeAsked_7 : decode cX9_sizeAsked 7 = .ok (.aload_n 1, 1) := by decide +kernel
theorem dX9_sizeAsked_8 : decode cX9_sizeAsked 8 = .ok (.invokespecial 13, 3) := by decide +kernel
theorem dX9_sizeAsked_11 : decode cX9_sizeAsked 11 = .ok (.aload_n 0, 1) := by decide +kernel
theorem dX9_sizeAsked_12 : decode cX9_sizeAsked 12 = .ok (.getfield 17, 3) := by decide +kernel
theorem dX9_sizeAsked_15 : decode cX9_sizeAsked 15 = .ok (.arraylength, 1) := by decide +kernel
theorem dX9_sizeAsked_16 : decode cX9_sizeAsked 16 = .ok (.iadd, 1) := by decide +kernel
theorem dX9_sizeAsked_17 : decode cX9_sizeAsked 17 = .ok (.ireturn, 1) := by decide +kernel
theorem dX10_init_0 : decode cX10_init 0 = .ok (.aload_n 0, 1) := by decide +kernel
theorem dX10_init_1 : decode cX10_init 1 = .ok (.iload_n 1, 1) := by decide +kernel
theorem dX10_init_2 : decode cX10_init 2 = .ok (.aload_n 2, 1) := by decide +kernel
theorem dX10_init_3 : decode cX10_init 3 = .ok (.iload_n 3, 1) := by decide +kernel
theorem dX10_init_4 : decode cX10_init 4 = .ok (.invokespecial 1, 3) := by decide +kernel
theorem dX10_init_7 : decode cX10_init 7 = .ok (.return_, 1) := by decide +kernel
theorem dX10_kindNumber_0 : decode cX10_kindNumber 0 = .ok (.iconst 2, 1) := by decide +kernel
theorem dX10_kindNumber_1 : decode cX10_kindNumber 1 = .ok (.ireturn, 1) := by decide +kernel
theorem dX10_sizeAsked_0 : decode cX10_sizeAsked 0 = .ok (.aload_n 1, 1) := by decide +kernel
theorem dX10_sizeAsked_1 : decode cX10_sizeAsked 1 = .ok (.bipush 12, 2) := by decide +kernel
theorem dX10_sizeAsked_3 : decode cX10_sizeAsked 3 = .ok (.invokevirtual 7, 3) := by decide +kernel
theorem dX10_sizeAsked_6 : decode cX10_sizeAsked 6 = .ok (.aload_n 0, 1) := by decide +kernel
theorem dX10_sizeAsked_7 : decode cX10_sizeAsked 7 = .ok (.aload_n 1, 1) := by decide +kernel
theorem dX10_sizeAsked_8 : decode cX10_sizeAsked 8 = .ok (.invokespecial 13, 3) := by decide +kernel
theorem dX10_sizeAsked_11 : decode cX10_sizeAsked 11 = .ok (.aload_n 0, 1) := by decide +kernel
theorem dX10_sizeAsked_12 : decode cX10_sizeAsked 12 = .ok (.iconst 0, 1) := by decide +kernel
theorem dX10_sizeAsked_13 : decode cX10_sizeAsked 13 = .ok (.invokevirtual 17, 3) := by decide +kernel
theorem dX10_sizeAsked_16 : decode cX10_sizeAsked 16 = .ok (.iadd, 1) := by decide +kernel
theorem dX10_sizeAsked_17 : decode cX10_sizeAsked 17 = .ok (.ireturn, 1) := by decide +kernel
theorem dX10_markAsked_0 : decode cX10_markAsked 0 = .ok (.aload_n 1, 1) := by decide +kernel
theorem dX10_markAsked_1 : decode cX10_markAsked 1 = .ok (.bipush 21, 2) := by decide +kernel
theorem dX10_markAsked_3 : decode cX10_markAsked 3 = .ok (.invokevirtual 7, 3) := by decide +kernel
theorem dX10_markAsked_6 : decode cX10_markAsked 6 = .ok (.aload_n 0, 1) := by decide +kernel
theorem dX10_markAsked_7 : decode cX10_markAsked 7 = .ok (.aload_n 1, 1) := by decide +kernel
theorem dX10_markAsked_8 : decode cX10_markAsked 8 = .ok (.invokespecial 23, 3) := by decide +kernel
theorem dX10_markAsked_11 : decode cX10_markAsked 11 = .ok (.bipush 100, 2) := by decide +kernel
theorem dX10_markAsked_13 : decode cX10_markAsked 13 = .ok (.iadd, 1) := by decide +kernel
theorem dX10_markAsked_14 : decode cX10_markAsked 14 = .ok (.ireturn, 1) := by decide +kernel
theorem dX11_init_0 : decode cX11_init 0 = .ok (.aload_n 0, 1) := by decide +kernel
theorem dX11_init_1 : decode cX11_init 1 = .ok (.invokespecial 1, 3) := by decide +kernel
theorem dX11_init_4 : decode cX11_init 4 = .ok (.aload_n 0, 1) := by decide +kernel
theorem dX11_init_5 : decode cX11_init 5 = .ok (.bipush 8, 2) := by decide +kernel
theorem dX11_init_7 : decode cX11_init 7 = .ok (.anewarray 9, 3) := by decide +kernel
theorem dX11_init_10 : decode cX11_init 10 = .ok (.putfield 11, 3) := by decide +kernel
theorem dX11_init_13 : decode cX11_init 13 = .ok (.iconst 0, 1) := by decide +kernel
theorem dX11_init_14 : decode cX11_init 14 = .ok (.istore_n 1, 1) := by decide +kernel
theorem dX11_init_15 : decode cX11_init 15 = .ok (.iload_n 1, 1) := by decide +kernel
theorem dX11_init_16 : decode cX11_init 16 = .ok (.bipush 8, 2) := by decide +kernel
theorem dX11_init_18 : decode cX11_init 18 = .ok (.if_icmp .ge 24, 3) := by decide +kernel
theorem dX11_init_21 : decode cX11_init 21 = .ok (.aload_n 0, 1) := by decide +kernel
theorem dX11_init_22 : decode cX11_init 22 = .ok (.getfield 11, 3) := by decide +kernel
theorem dX11_init_25 : decode cX11_init 25 = .ok (.iload_n 1, 1) := by decide +kernel
theorem dX11_init_26 : decode cX11_init 26 = .ok (.new 9, 3) := by decide +kernel
theorem dX11_init_29 : decode cX11_init 29 = .ok (.dup, 1) := by decide +kernel
theorem dX11_init_30 : decode cX11_init 30 = .ok (.bipush 96, 2) := by decide +kernel
theorem dX11_init_32 : decode cX11_init 32 = .ok (.invokespecial 15, 3) := by decide +kernel
theorem dX11_init_35 : decode cX11_init 35 = .ok (.aastore, 1) := by decide +kernel
theorem dX11_init_36 : decode cX11_init 36 = .ok (.iinc 1 1, 3) := by decide +kernel
theorem dX11_init_39 : decode cX11_init 39 = .ok (.goto (-24), 3) := by decide +kernel
theorem dX11_init_42 : decode cX11_init 42 = .ok (.aload_n 0, 1) := by decide +kernel
theorem dX11_init_43 : decode cX11_init 43 = .ok (.bipush 10, 2) := by decide +kernel
theorem dX11_init_45 : decode cX11_init 45 = .ok (.anewarray 18, 3) := by decide +kernel
theorem dX11_init_48 : decode cX11_init 48 = .ok (.putfield 20, 3) := by decide +kernel
theorem dX11_init_51 : decode cX11_init 51 = .ok (.aload_n 0, 1) := by decide +kernel
theorem dX11_init_52 : decode cX11_init 52 = .ok (.new 9, 3) := by decide +kernel
theorem dX11_init_55 : decode cX11_init 55 = .ok (.dup, 1) := by decide +kernel
theorem dX11_init_56 : decode cX11_init 56 = .ok (.bipush 16, 2) := by decide +kernel
theorem dX11_init_58 : decode cX11_init 58 = .ok (.invokespecial 15, 3) := by decide +kernel
theorem dX11_init_61 : decode cX11_init 61 = .ok (.putfield 24, 3) := by decide +kernel
theorem dX11_init_64 : decode cX11_init 64 = .ok (.aload_n 0, 1) := by decide +kernel
theorem dX11_init_65 : decode cX11_init 65 = .ok (.getfield 24, 3) := by decide +kernel
theorem dX11_init_68 : decode cX11_init 68 = .ok (.iconst 2, 1) := by decide +kernel
theorem dX11_init_69 : decode cX11_init 69 = .ok (.iconst 0, 1) := by decide +kernel
theorem dX11_init_70 : decode cX11_init 70 = .ok (.invokevirtual 28, 3) := by decide +kernel
theorem dX11_init_73 : decode cX11_init 73 = .ok (.aload_n 0, 1) := by decide +kernel
theorem dX11_init_74 : decode cX11_init 74 = .ok (.new 32, 3) := by decide +kernel
theorem dX11_init_77 : decode cX11_init 77 = .ok (.dup, 1) := by decide +kernel
theorem dX11_init_78 : decode cX11_init 78 = .ok (.invokespecial 34, 3) := by decide +kernel
theorem dX11_init_81 : decode cX11_init 81 = .ok (.putfield 35, 3) := by decide +kernel
theorem dX11_init_84 : decode cX11_init 84 = .ok (.aload_n 0, 1) := by decide +kernel
theorem dX11_init_85 : decode cX11_init 85 = .ok (.new 39, 3) := by decide +kernel
theorem dX11_init_88 : decode cX11_init 88 = .ok (.dup, 1) := by decide +kernel
theorem dX11_init_89 : decode cX11_init 89 = .ok (.invokespecial 41, 3) := by decide +kernel
theorem dX11_init_92 : decode cX11_init 92 = .ok (.putfield 42, 3) := by decide +kernel
theorem dX11_init_95 : decode cX11_init 95 = .ok (.aload_n 0, 1) := by decide +kernel
theorem dX11_init_96 : decode cX11_init 96 = .ok (.new 46, 3) := by decide +kernel
theorem dX11_init_99 : decode cX11_init 99 = .ok (.dup, 1) := by decide +kernel
theorem dX11_init_100 : decode cX11_init 100 = .ok (.invokespecial 48, 3) := by decide +kernel
theorem dX11_init_103 : decode cX11_init 103 = .ok (.putfield 49, 3) := by decide +kernel
theorem dX11_init_106 : decode cX11_init 106 = .ok (.aload_n 0, 1) := by decide +kernel
theorem dX11_init_107 : decode cX11_init 107 = .ok (.new 53, 3) := by decide +kernel
theorem dX11_init_110 : decode cX11_init 110 = .ok (.dup, 1) := by decide +kernel
theorem dX11_init_111 : decode cX11_init 111 = .ok (.invokespecial 55, 3) := by decide +kernel
theorem dX11_init_114 : decode cX11_init 114 = .ok (.putfield 56, 3) := by decide +kernel
theorem dX11_init_117 : decode cX11_init 117 = .ok (.return_, 1) := by decide +kernel
theorem dX11_row_0 : decode cX11_row 0 = .ok (.iload_n 1, 1) := by decide +kernel
theorem dX11_row_1 : decode cX11_row 1 = .ok (.invokestatic 60, 3) := by decide +kernel
theorem dX11_row_4 : decode cX11_row 4 = .ok (.ifCond .ne 18, 3) := by decide +kernel
theorem dX11_row_7 : decode cX11_row 7 = .ok (.iload_n 2, 1) := by decide +kernel
theorem dX11_row_8 : decode cX11_row 8 = .ok (.ifCond .lt 14, 3) := by decide +kernel
theorem dX11_row_11 : decode cX11_row 11 = .ok (.iload_n 2, 1) := by decide +kernel
theorem dX11_row_12 : decode cX11_row 12 = .ok (.iconst 2, 1) := by decide +kernel
theorem dX11_row_13 : decode cX11_row 13 = .ok (.if_icmp .gt 9, 3) := by decide +kernel
theorem dX11_row_16 : decode cX11_row 16 = .ok (.iload_n 3, 1) := by decide +kernel
theorem dX11_row_17 : decode cX11_row 17 = .ok (.bipush 96, 2) := by decide +kernel
theorem dX11_row_19 : decode cX11_row 19 = .ok (.if_icmp .le 6, 3) := by decide +kernel
theorem dX11_row_22 : decode cX11_row 22 = .ok (.ldc 64, 2) := by decide +kernel
theorem dX11_row_24 : decode cX11_row 24 = .ok (.ireturn, 1) := by decide +kernel
theorem dX11_row_25 : decode cX11_row 25 = .ok (.iload_n 3, 1) := by decide +kernel
theorem dX11_row_26 : decode cX11_row 26 = .ok (.ifCond .ge 9, 3) := by decide +kernel
theorem dX11_row_29 : decode cX11_row 29 = .ok (.aload_n 0, 1) := by decide +kernel
theorem dX11_row_30 : decode cX11_row 30 = .ok (.iconst 4, 1) := by decide +kernel
theorem dX11_row_31 : decode cX11_row 31 = .ok (.invokevirtual 65, 3) := by decide +kernel
theorem dX11_row_34 : decode cX11_row 34 = .ok (.ireturn, 1) := by decide +kernel
theorem dX11_row_35 : decode cX11_row 35 = .ok (.aload_n 0, 1) := by decide +kernel
theorem dX11_row_36 : decode cX11_row 36 = .ok (.getfield 11, 3) := by decide +kernel
theorem dX11_row_39 : decode cX11_row 39 = .ok (.iload_n 1, 1) := by decide +kernel
theorem dX11_row_40 : decode cX11_row 40 = .ok (.aaload, 1) := by decide +kernel
theorem dX11_row_41 : decode cX11_row 41 = .ok (.iload_n 2, 1) := by decide +kernel
theorem dX11_row_42 : decode cX11_row 42 = .ok (.iload_n 3, 1) := by decide +kernel
theorem dX11_row_43 : decode cX11_row 43 = .ok (.invokevirtual 28, 3) := by decide +kernel
theorem dX11_row_46 : decode cX11_row 46 = .ok (.aload_n 0, 1) := by decide +kernel
theorem dX11_row_47 : decode cX11_row 47 = .ok (.iload_n 3, 1) := by decide +kernel
theorem dX11_row_48 : decode cX11_row 48 = .ok (.invokevirtual 69, 3) := by decide +kernel
theorem dX11_row_51 : decode cX11_row 51 = .ok (.ireturn, 1) := by decide +kernel
theorem dX11_set_0 : decode cX11_set 0 = .ok (.iload_n 1, 1) := by decide +kernel
theorem dX11_set_1 : decode cX11_set 1 = .ok (.invokestatic 60, 3) := by decide +kernel
theorem dX11_set_4 : decode cX11_set 4 = .ok (.ifCond .eq 6, 3) := by decide +kernel
theorem dX11_set_7 : decode cX11_set 7 = .ok (.ldc 64, 2) := by decide +kernel
theorem dX11_set_9 : decode cX11_set 9 = .ok (.ireturn, 1) := by decide +kernel
theorem dX11_set_10 : decode cX11_set 10 = .ok (.aload_n 0, 1) := by decide +kernel
theorem dX11_set_11 : decode cX11_set 11 = .ok (.getfield 11, 3) := by decide +kernel
theorem dX11_set_14 : decode cX11_set 14 = .ok (.iload_n 1, 1) := by decide +kernel
theorem dX11_set_15 : decode cX11_set 15 = .ok (.aaload, 1) := by decide +kernel
theorem dX11_set_16 : decode cX11_set 16 = .ok (.astore 4, 2) := by decide +kernel
theorem dX11_set_18 : decode cX11_set 18 = .ok (.aload 4, 2) := by decide +kernel
theorem dX11_set_20 : decode cX11_set 20 = .ok (.invokevirtual 72, 3) := by decide +kernel
theorem dX11_set_23 : decode cX11_set 23 = .ok (.ifCond .eq 9, 3) := by decide +kernel
theorem dX11_set_26 : decode cX11_set 26 = .ok (.aload_n 0, 1) := by decide +kernel
theorem dX11_set_27 : decode cX11_set 27 = .ok (.iconst 1, 1) := by decide +kernel
theorem dX11_set_28 : decode cX11_set 28 = .ok (.invokevirtual 65, 3) := by decide +kernel
theorem dX11_set_31 : decode cX11_set 31 = .ok (.ireturn, 1) := by decide +kernel
theorem dX11_set_32 : decode cX11_set 32 = .ok (.aload 4, 2) := by decide +kernel
theorem dX11_set_34 : decode cX11_set 34 = .ok (.iload_n 2, 1) := by decide +kernel
theorem dX11_set_35 : decode cX11_set 35 = .ok (.iconst 1, 1) := by decide +kernel
theorem dX11_set_36 : decode cX11_set 36 = .ok (.invokevirtual 76, 3) := by decide +kernel
theorem dX11_set_39 : decode cX11_set 39 = .ok (.ifCond .ne 9, 3) := by decide +kernel
theorem dX11_set_42 : decode cX11_set 42 = .ok (.aload_n 0, 1) := by decide +kernel
theorem dX11_set_43 : decode cX11_set 43 = .ok (.iconst 2, 1) := by decide +kernel
theorem dX11_set_44 : decode cX11_set 44 = .ok (.invokevirtual 65, 3) := by decide +kernel
theorem dX11_set_47 : decode cX11_set 47 = .ok (.ireturn, 1) := by decide +kernel
theorem dX11_set_48 : decode cX11_set 48 = .ok (.aload_n 0, 1) := by decide +kernel
theorem dX11_set_49 : decode cX11_set 49 = .ok (.aload 4, 2) := by decide +kernel
theorem dX11_set_51 : decode cX11_set 51 = .ok (.iload_n 2, 1) := by decide +kernel
theorem dX11_set_52 : decode cX11_set 52 = .ok (.iload_n 3, 1) := by decide +kernel
theorem dX11_set_53 : decode cX11_set 53 = .ok (.invokevirtual 80, 3) := by decide +kernel
theorem dX11_set_56 : decode cX11_set 56 = .ok (.invokevirtual 69, 3) := by decide +kernel
theorem dX11_set_59 : decode cX11_set 59 = .ok (.ireturn, 1) := by decide +kernel
theorem dX11_copy_0 : decode cX11_copy 0 = .ok (.iload_n 1, 1) := by decide +kernel
theorem dX11_copy_1 : decode cX11_copy 1 = .ok (.invokestatic 60, 3) := by decide +kernel
theorem dX11_copy_4 : decode cX11_copy 4 = .ok (.ifCond .ne 10, 3) := by decide +kernel
theorem dX11_copy_7 : decode cX11_copy 7 = .ok (.iload_n 3, 1) := by decide +kernel
theorem dX11_copy_8 : decode cX11_copy 8 = .ok (.invokestatic 60, 3) := by decide +kernel
theorem dX11_copy_11 : decode cX11_copy 11 = .ok (.ifCond .eq 6, 3) := by decide +kernel
theorem dX11_copy_14 : decode cX11_copy 14 = .ok (.ldc 64, 2) := by decide +kernel
theorem dX11_copy_16 : decode cX11_copy 16 = .ok (.ireturn, 1) := by decide +kernel
theorem dX11_copy_17 : decode cX11_copy 17 = .ok (.aload_n 0, 1) := by decide +kernel
theorem dX11_copy_18 : decode cX11_copy 18 = .ok (.getfield 11, 3) := by decide +kernel
theorem dX11_copy_21 : decode cX11_copy 21 = .ok (.iload_n 1, 1) := by decide +kernel
theorem dX11_copy_22 : decode cX11_copy 22 = .ok (.aaload, 1) := by decide +kernel
theorem dX11_copy_23 : decode cX11_copy 23 = .ok (.astore 6, 2) := by decide +kernel
theorem dX11_copy_25 : decode cX11_copy 25 = .ok (.aload_n 0, 1) := by decide +kernel
theorem dX11_copy_26 : decode cX11_copy 26 = .ok (.getfield 11, 3) := by decide +kernel
theorem dX11_copy_29 : decode cX11_copy 29 = .ok (.iload_n 3, 1) := by decide +kernel
theorem dX11_copy_30 : decode cX11_copy 30 = .ok (.aaload, 1) := by decide +kernel
theorem dX11_copy_31 : decode cX11_copy 31 = .ok (.astore 7, 2) := by decide +kernel
theorem dX11_copy_33 : decode cX11_copy 33 = .ok (.aload 6, 2) := by decide +kernel
theorem dX11_copy_35 : decode cX11_copy 35 = .ok (.invokevirtual 72, 3) := by decide +kernel
theorem dX11_copy_38 : decode cX11_copy 38 = .ok (.ifCond .ne 11, 3) := by decide +kernel
theorem dX11_copy_41 : decode cX11_copy 41 = .ok (.aload 7, 2) := by decide +kernel
theorem dX11_copy_43 : decode cX11_copy 43 = .ok (.invokevirtual 72, 3) := by decide +kernel
theorem dX11_copy_46 : decode cX11_copy 46 = .ok (.ifCond .eq 9, 3) := by decide +kernel
theorem dX11_copy_49 : decode cX11_copy 49 = .ok (.aload_n 0, 1) := by decide +kernel
theorem dX11_copy_50 : decode cX11_copy 50 = .ok (.iconst 1, 1) := by decide +kernel
theorem dX11_copy_51 : decode cX11_copy 51 = .ok (.invokevirtual 65, 3) := by decide +kernel
theorem dX11_copy_54 : decode cX11_copy 54 = .ok (.ireturn, 1) := by decide +kernel
theorem dX11_copy_55 : decode cX11_copy 55 = .ok (.aload 6, 2) := by decide +kernel
theorem dX11_copy_57 : decode cX11_copy 57 = .ok (.getfield 84, 3) := by decide +kernel
theorem dX11_copy_60 : decode cX11_copy 60 = .ok (.aload 7, 2) := by decide +kernel
theorem dX11_copy_62 : decode cX11_copy 62 = .ok (.getfield 84, 3) := by decide +kernel
theorem dX11_copy_65 : decode cX11_copy 65 = .ok (.if_icmp .eq 9, 3) := by decide +kernel
theorem dX11_copy_68 : decode cX11_copy 68 = .ok (.aload_n 0, 1) := by decide +kernel
theorem dX11_copy_69 : decode cX11_copy 69 = .ok (.iconst 5, 1) := by decide +kernel
theorem dX11_copy_70 : decode cX11_copy 70 = .ok (.invokevirtual 65, 3) := by decide +kernel
theorem dX11_copy_73 : decode cX11_copy 73 = .ok (.ireturn, 1) := by decide +kernel
theorem dX11_copy_74 : decode cX11_copy 74 = .ok (.aload 6, 2) := by decide +kernel
theorem dX11_copy_76 : decode cX11_copy 76 = .ok (.iload_n 2, 1) := by decide +kernel
theorem dX11_copy_77 : decode cX11_copy 77 = .ok (.iload 5, 2) := by decide +kernel
theorem dX11_copy_79 : decode cX11_copy 79 = .ok (.invokevirtual 76, 3) := by decide +kernel
theorem dX11_copy_82 : decode cX11_copy 82 = .ok (.ifCond .eq 15, 3) := by decide +kernel
theorem dX11_copy_85 : decode cX11_copy 85 = .ok (.aload 7, 2) := by decide +kernel
theorem dX11_copy_87 : decode cX11_copy 87 = .ok (.iload 4, 2) := by decide +kernel
theorem dX11_copy_89 : decode cX11_copy 89 = .ok (.iload 5, 2) := by decide +kernel
theorem dX11_copy_91 : decode cX11_copy 91 = .ok (.invokevirtual 76, 3) := by decide +kernel
theorem dX11_copy_94 : decode cX11_copy 94 = .ok (.ifCond .ne 9, 3) := by decide +kernel
theorem dX11_copy_97 : decode cX11_copy 97 = .ok (.aload_n 0, 1) := by decide +kernel
theorem dX11_copy_98 : decode cX11_copy 98 = .ok (.iconst 2, 1) := by decide +kernel
theorem dX11_copy_99 : decode cX11_copy 99 = .ok (.invokevirtual 65, 3) := by decide +kernel
theorem dX11_copy_102 : decode cX11_copy 102 = .ok (.ireturn, 1) := by decide +kernel
theorem dX11_copy_103 : decode cX11_copy 103 = .ok (.aload 7, 2) := by decide +kernel
theorem dX11_copy_105 : decode cX11_copy 105 = .ok (.iload 4, 2) := by decide +kernel
theorem dX11_copy_107 : decode cX11_copy 107 = .ok (.aload 6, 2) := by decide +kernel
theorem dX11_copy_109 : decode cX11_copy 109 = .ok (.iload_n 2, 1) := by decide +kernel
theorem dX11_copy_110 : decode cX11_copy 110 = .ok (.iload 5, 2) := by decide +kernel
theorem dX11_copy_112 : decode cX11_copy 112 = .ok (.invokevirtual 88, 3) := by decide +kernel
theorem dX11_copy_115 : decode cX11_copy 115 = .ok (.aload_n 0, 1) := by decide +kernel
theorem dX11_copy_116 : decode cX11_copy 116 = .ok (.iload 5, 2) := by decide +kernel
theorem dX11_copy_118 : decode cX11_copy 118 = .ok (.invokevirtual 69, 3) := by decide +kernel
theorem dX11_copy_121 : decode cX11_copy 121 = .ok (.ireturn, 1) := by decide +kernel
theorem dX11_drop_0 : decode cX11_drop 0 = .ok (.iload_n 1, 1) := by decide +kernel
theorem dX11_drop_1 : decode cX11_drop 1 = .ok (.invokestatic 60, 3) := by decide +kernel
theorem dX11_drop_4 : decode cX11_drop 4 = .ok (.ifCond .eq 6, 3) := by decide +kernel
theorem dX11_drop_7 : decode cX11_drop 7 = .ok (.ldc 64, 2) := by decide +kernel
theorem dX11_drop_9 : decode cX11_drop 9 = .ok (.ireturn, 1) := by decide +kernel
theorem dX11_drop_10 : decode cX11_drop 10 = .ok (.aload_n 0, 1) := by decide +kernel
theorem dX11_drop_11 : decode cX11_drop 11 = .ok (.getfield 11, 3) := by decide +kernel
theorem dX11_drop_14 : decode cX11_drop 14 = .ok (.iload_n 1, 1) := by decide +kernel
theorem dX11_drop_15 : decode cX11_drop 15 = .ok (.aaload, 1) := by decide +kernel
theorem dX11_drop_16 : decode cX11_drop 16 = .ok (.astore_n 2, 1) := by decide +kernel
theorem dX11_drop_17 : decode cX11_drop 17 = .ok (.aload_n 2, 1) := by decide +kernel
theorem dX11_drop_18 : decode cX11_drop 18 = .ok (.invokevirtual 72, 3) := by decide +kernel
theorem dX11_drop_21 : decode cX11_drop 21 = .ok (.ifCond .eq 9, 3) := by decide +kernel
theorem dX11_drop_24 : decode cX11_drop 24 = .ok (.aload_n 0, 1) := by decide +kernel
theorem dX11_drop_25 : decode cX11_drop 25 = .ok (.iconst 1, 1) := by decide +kernel
theorem dX11_drop_26 : decode cX11_drop 26 = .ok (.invokevirtual 65, 3) := by decide +kernel
theorem dX11_drop_29 : decode cX11_drop 29 = .ok (.ireturn, 1) := by decide +kernel
theorem dX11_drop_30 : decode cX11_drop 30 = .ok (.aload_n 2, 1) := by decide +kernel
theorem dX11_drop_31 : decode cX11_drop 31 = .ok (.getfield 92, 3) := by decide +kernel
theorem dX11_drop_34 : decode cX11_drop 34 = .ok (.istore_n 3, 1) := by decide +kernel
theorem dX11_drop_35 : decode cX11_drop 35 = .ok (.aload_n 2, 1) := by decide +kernel
theorem dX11_drop_36 : decode cX11_drop 36 = .ok (.invokevirtual 95, 3) := by decide +kernel
theorem dX11_drop_39 : decode cX11_drop 39 = .ok (.aload_n 0, 1) := by decide +kernel
theorem dX11_drop_40 : decode cX11_drop 40 = .ok (.iload_n 3, 1) := by decide +kernel
theorem dX11_drop_41 : decode cX11_drop 41 = .ok (.invokevirtual 69, 3) := by decide +kernel
theorem dX11_drop_44 : decode cX11_drop 44 = .ok (.ireturn, 1) := by decide +kernel
theorem dX11_cover_0 : decode cX11_cover 0 = .ok (.iload_n 1, 1) := by decide +kernel
theorem dX11_cover_1 : decode cX11_cover 1 = .ok (.invokestatic 98, 3) := by decide +kernel
theorem dX11_cover_4 : decode cX11_cover 4 = .ok (.ifCond .ne 36, 3) := by decide +kernel
theorem dX11_cover_7 : decode cX11_cover 7 = .ok (.iload_n 2, 1) := by decide +kernel
theorem dX11_cover_8 : decode cX11_cover 8 = .ok (.invokestatic 60, 3) := by decide +kernel
theorem dX11_cover_11 : decode cX11_cover 11 = .ok (.ifCond .ne 29, 3) := by decide +kernel
theorem dX11_cover_14 : decode cX11_cover 14 = .ok (.iload 4, 2) := by decide +kernel
theorem dX11_cover_16 : decode cX11_cover 16 = .ok (.iconst 1, 1) := by decide +kernel
theorem dX11_cover_17 : decode cX11_cover 17 = .ok (.if_icmp .lt 23, 3) := by decide +kernel
theorem dX11_cover_20 : decode cX11_cover 20 = .ok (.iload 4, 2) := by decide +kernel
theorem dX11_cover_22 : decode cX11_cover 22 = .ok (.bipush 12, 2) := by decide +kernel
theorem dX11_cover_24 : decode cX11_cover 24 = .ok (.if_icmp .gt 16, 3) := by decide +kernel
theorem dX11_cover_27 : decode cX11_cover 27 = .ok (.iload 5, 2) := by decide +kernel
theorem dX11_cover_29 : decode cX11_cover 29 = .ok (.iconst 1, 1) := by decide +kernel
theorem dX11_cover_30 : decode cX11_cover 30 = .ok (.if_icmp .lt 10, 3) := by decide +kernel
theorem dX11_cover_33 : decode cX11_cover 33 = .ok (.iload 5, 2) := by decide +kernel
theorem dX11_cover_35 : decode cX11_cover 35 = .ok (.bipush 8, 2) := by decide +kernel
theorem dX11_cover_37 : decode cX11_cover 37 = .ok (.if_icmp .le 6, 3) := by decide +kernel
theorem dX11_cover_40 : decode cX11_cover 40 = .ok (.ldc 64, 2) := by decide +kernel
theorem dX11_cover_42 : decode cX11_cover 42 = .ok (.ireturn, 1) := by decide +kernel
theorem dX11_cover_43 : decode cX11_cover 43 = .ok (.aload_n 0, 1) := by decide +kernel
theorem dX11_cover_44 : decode cX11_cover 44 = .ok (.getfield 11, 3) := by decide +kernel
theorem dX11_cover_47 : decode cX11_cover 47 = .ok (.iload_n 2, 1) := by decide +kernel
theorem dX11_cover_48 : decode cX11_cover 48 = .ok (.aaload, 1) := by decide +kernel
theorem dX11_cover_49 : decode cX11_cover 49 = .ok (.astore 6, 2) := by decide +kernel
theorem dX11_cover_51 : decode cX11_cover 51 = .ok (.aload 6, 2) := by decide +kernel
theorem dX11_cover_53 : decode cX11_cover 53 = .ok (.invokevirtual 72, 3) := by decide +kernel
theorem dX11_cover_56 : decode cX11_cover 56 = .ok (.ifCond .eq 9, 3) := by decide +kernel
theorem dX11_cover_59 : decode cX11_cover 59 = .ok (.aload_n 0, 1) := by decide +kernel
theorem dX11_cover_60 : decode cX11_cover 60 = .ok (.iconst 1, 1) := by decide +kernel
theorem dX11_cover_61 : decode cX11_cover 61 = .ok (.invokevirtual 65, 3) := by decide +kernel
theorem dX11_cover_64 : decode cX11_cover 64 = .ok (.ireturn, 1) := by decide +kernel
theorem dX11_cover_65 : decode cX11_cover 65 = .ok (.aload 6, 2) := by decide +kernel
theorem dX11_cover_67 : decode cX11_cover 67 = .ok (.iload_n 3, 1) := by decide +kernel
theorem dX11_cover_68 : decode cX11_cover 68 = .ok (.iload 4, 2) := by decide +kernel
theorem dX11_cover_70 : decode cX11_cover 70 = .ok (.iload 5, 2) := by decide +kernel
theorem dX11_cover_72 : decode cX11_cover 72 = .ok (.iconst 1, 1) := by decide +kernel
theorem dX11_cover_73 : decode cX11_cover 73 = .ok (.isub, 1) := by decide +kernel
theorem dX11_cover_74 : decode cX11_cover 74 = .ok (.imul, 1) := by decide +kernel
theorem dX11_cover_75 : decode cX11_cover 75 = .ok (.invokevirtual 76, 3) := by decide +kernel
theorem dX11_cover_78 : decode cX11_cover 78 = .ok (.ifCond .ne 9, 3) := by decide +kernel
theorem dX11_cover_81 : decode cX11_cover 81 = .ok (.aload_n 0, 1) := by decide +kernel
theorem dX11_cover_82 : decode cX11_cover 82 = .ok (.iconst 2, 1) := by decide +kernel
theorem dX11_cover_83 : decode cX11_cover 83 = .ok (.invokevirtual 65, 3) := by decide +kernel
theorem dX11_cover_86 : decode cX11_cover 86 = .ok (.ireturn, 1) := by decide +kernel
theorem dX11_cover_87 : decode cX11_cover 87 = .ok (.iload 5, 2) := by decide +kernel
theorem dX11_cover_89 : decode cX11_cover 89 = .ok (.newarray .long, 2) := by decide +kernel
theorem dX11_cover_91 : decode cX11_cover 91 = .ok (.astore 7, 2) := by decide +kernel
theorem dX11_cover_93 : decode cX11_cover 93 = .ok (.iload 4, 2) := by decide +kernel
theorem dX11_cover_95 : decode cX11_cover 95 = .ok (.invokestatic 101, 3) := by decide +kernel
theorem dX11_cover_98 : decode cX11_cover 98 = .ok (.lstore 8, 2) := by decide +kernel
theorem dX11_cover_100 : decode cX11_cover 100 = .ok (.iconst 0, 1) := by decide +kernel
theorem dX11_cover_101 : decode cX11_cover 101 = .ok (.istore 10, 2) := by decide +kernel
theorem dX11_cover_103 : decode cX11_cover 103 = .ok (.iload 10, 2) := by decide +kernel
theorem dX11_cover_105 : decode cX11_cover 105 = .ok (.iload 5, 2) := by decide +kernel
theorem dX11_cover_107 : decode cX11_cover 107 = .ok (.iconst 1, 1) := by decide +kernel
theorem dX11_cover_108 : decode cX11_cover 108 = .ok (.isub, 1) := by decide +kernel
theorem dX11_cover_109 : decode cX11_cover 109 = .ok (.if_icmp .ge 57, 3) := by decide +kernel
theorem dX11_cover_112 : decode cX11_cover 112 = .ok (.aload 7, 2) := by decide +kernel
theorem dX11_cover_114 : decode cX11_cover 114 = .ok (.iload 10, 2) := by decide +kernel
theorem dX11_cover_116 : decode cX11_cover 116 = .ok (.aload 6, 2) := by decide +kernel
theorem dX11_cover_118 : decode cX11_cover 118 = .ok (.iload_n 3, 1) := by decide +kernel
theorem dX11_cover_119 : decode cX11_cover 119 = .ok (.iload 10, 2) := by decide +kernel
theorem dX11_cover_121 : decode cX11_cover 121 = .ok (.iload 4, 2) := by decide +kernel
theorem dX11_cover_123 : decode cX11_cover 123 = .ok (.imul, 1) := by decide +kernel
theorem dX11_cover_124 : decode cX11_cover 124 = .ok (.iadd, 1) := by decide +kernel
theorem dX11_cover_125 : decode cX11_cover 125 = .ok (.iload 4, 2) := by decide +kernel
theorem dX11_cover_127 : decode cX11_cover 127 = .ok (.invokevirtual 107, 3) := by decide +kernel
theorem dX11_cover_130 : decode cX11_cover 130 = .ok (.lastore, 1) := by decide +kernel
theorem dX11_cover_131 : decode cX11_cover 131 = .ok (.aload 7, 2) := by decide +kernel
theorem dX11_cover_133 : decode cX11_cover 133 = .ok (.iload 10, 2) := by decide +kernel
theorem dX11_cover_135 : decode cX11_cover 135 = .ok (.laload, 1) := by decide +kernel
theorem dX11_cover_136 : decode cX11_cover 136 = .ok (.ldc2_w 111, 3) := by decide +kernel
theorem dX11_cover_139 : decode cX11_cover 139 = .ok (.lcmp, 1) := by decide +kernel
theorem dX11_cover_140 : decode cX11_cover 140 = .ok (.ifCond .ne 6, 3) := by decide +kernel
theorem dX11_cover_143 : decode cX11_cover 143 = .ok (.ldc 64, 2) := by decide +kernel
theorem dX11_cover_145 : decode cX11_cover 145 = .ok (.ireturn, 1) := by decide +kernel
theorem dX11_cover_146 : decode cX11_cover 146 = .ok (.lload 8, 2) := by decide +kernel
theorem dX11_cover_148 : decode cX11_cover 148 = .ok (.aload 7, 2) := by decide +kernel
theorem dX11_cover_150 : decode cX11_cover 150 = .ok (.iload 10, 2) := by decide +kernel
theorem dX11_cover_152 : decode cX11_cover 152 = .ok (.laload, 1) := by decide +kernel
theorem dX11_cover_153 : decode cX11_cover 153 = .ok (.iload 4, 2) := by decide +kernel
theorem dX11_cover_155 : decode cX11_cover 155 = .ok (.invokestatic 113, 3) := by decide +kernel
theorem dX11_cover_158 : decode cX11_cover 158 = .ok (.lstore 8, 2) := by decide +kernel
theorem dX11_cover_160 : decode cX11_cover 160 = .ok (.iinc 10 1, 3) := by decide +kernel
theorem dX11_cover_163 : decode cX11_cover 163 = .ok (.goto (-60), 3) := by decide +kernel
theorem dX11_cover_166 : decode cX11_cover 166 = .ok (.aload 7, 2) := by decide +kernel
theorem dX11_cover_168 : decode cX11_cover 168 = .ok (.iload 5, 2) := by decide +kernel
theorem dX11_cover_170 : decode cX11_cover 170 = .ok (.iconst 1, 1) := by decide +kernel
theorem dX11_cover_171 : decode cX11_cover 171 = .ok (.isub, 1) := by decide +kernel
theorem dX11_cover_172 : decode cX11_cover 172 = .ok (.lload 8, 2) := by decide +kernel
theorem dX11_cover_174 : decode cX11_cover 174 = .ok (.iload 4, 2) := by decide +kernel
theorem dX11_cover_176 : decode cX11_cover 176 = .ok (.invokestatic 117, 3) := by decide +kernel
theorem dX11_cover_179 : decode cX11_cover 179 = .ok (.lastore, 1) := by decide +kernel
theorem dX11_cover_180 : decode cX11_cover 180 = .ok (.aload_n 0, 1) := by decide +kernel
theorem dX11_cover_181 : decode cX11_cover 181 = .ok (.iload_n 1, 1) := by decide +kernel
theorem dX11_cover_182 : decode cX11_cover 182 = .ok (.iload 4, 2) := by decide +kernel
theorem dX11_cover_184 : decode cX11_cover 184 = .ok (.aload 7, 2) := by decide +kernel
theorem dX11_cover_186 : decode cX11_cover 186 = .ok (.invokestatic 121, 3) := by decide +kernel
theorem dX11_cover_189 : decode cX11_cover 189 = .ok (.invokevirtual 125, 3) := by decide +kernel
theorem dX11_cover_192 : decode cX11_cover 192 = .ok (.ireturn, 1) := by decide +kernel
theorem dX11_part_0 : decode cX11_part 0 = .ok (.iload_n 1, 1) := by decide +kernel
theorem dX11_part_1 : decode cX11_part 1 = .ok (.invokestatic 98, 3) := by decide +kernel
theorem dX11_part_4 : decode cX11_part 4 = .ok (.ifCond .ne 10, 3) := by decide +kernel
theorem dX11_part_7 : decode cX11_part 7 = .ok (.iload_n 2, 1) := by decide +kernel
theorem dX11_part_8 : decode cX11_part 8 = .ok (.invokestatic 98, 3) := by decide +kernel
theorem dX11_part_11 : decode cX11_part 11 = .ok (.ifCond .eq 6, 3) := by decide +kernel
theorem dX11_part_14 : decode cX11_part 14 = .ok (.ldc 64, 2) := by decide +kernel
theorem dX11_part_16 : decode cX11_part 16 = .ok (.ireturn, 1) := by decide +kernel
theorem dX11_part_17 : decode cX11_part 17 = .ok (.aload_n 0, 1) := by decide +kernel
theorem dX11_part_18 : decode cX11_part 18 = .ok (.getfield 20, 3) := by decide +kernel
theorem dX11_part_21 : decode cX11_part 21 = .ok (.iload_n 2, 1) := by decide +kernel
theorem dX11_part_22 : decode cX11_part 22 = .ok (.aaload, 1) := by decide +kernel
theorem dX11_part_23 : decode cX11_part 23 = .ok (.astore 4, 2) := by decide +kernel
theorem dX11_part_25 : decode cX11_part 25 = .ok (.aload 4, 2) := by decide +kernel
theorem dX11_part_27 : decode cX11_part 27 = .ok (.ifnonnull 9, 3) := by decide +kernel
theorem dX11_part_30 : decode cX11_part 30 = .ok (.aload_n 0, 1) := by decide +kernel
theorem dX11_part_31 : decode cX11_part 31 = .ok (.iconst 1, 1) := by decide +kernel
theorem dX11_part_32 : decode cX11_part 32 = .ok (.invokevirtual 65, 3) := by decide +kernel
theorem dX11_part_35 : decode cX11_part 35 = .ok (.ireturn, 1) := by decide +kernel
theorem dX11_part_36 : decode cX11_part 36 = .ok (.iload_n 3, 1) := by decide +kernel
theorem dX11_part_37 : decode cX11_part 37 = .ok (.ifCond .lt 12, 3) := by decide +kernel
theorem dX11_part_40 : decode cX11_part 40 = .ok (.iload_n 3, 1) := by decide +kernel
theorem dX11_part_41 : decode cX11_part 41 = .ok (.aload 4, 2) := by decide +kernel
theorem dX11_part_43 : decode cX11_part 43 = .ok (.getfield 129, 3) := by decide +kernel
theorem dX11_part_46 : decode cX11_part 46 = .ok (.if_icmp .lt 6, 3) := by decide +kernel
theorem dX11_part_49 : decode cX11_part 49 = .ok (.ldc 64, 2) := by decide +kernel
theorem dX11_part_51 : decode cX11_part 51 = .ok (.ireturn, 1) := by decide +kernel
theorem dX11_part_52 : decode cX11_part 52 = .ok (.aload_n 0, 1) := by decide +kernel
theorem dX11_part_53 : decode cX11_part 53 = .ok (.iload_n 1, 1) := by decide +kernel
theorem dX11_part_54 : decode cX11_part 54 = .ok (.aload 4, 2) := by decide +kernel
theorem dX11_part_56 : decode cX11_part 56 = .ok (.iload_n 3, 1) := by decide +kernel
theorem dX11_part_57 : decode cX11_part 57 = .ok (.invokevirtual 132, 3) := by decide +kernel
theorem dX11_part_60 : decode cX11_part 60 = .ok (.invokevirtual 125, 3) := by decide +kernel
theorem dX11_part_63 : decode cX11_part 63 = .ok (.ireturn, 1) := by decide +kernel
theorem dX11_name_0 : decode cX11_name 0 = .ok (.iload_n 1, 1) := by decide +kernel
theorem dX11_name_1 : decode cX11_name 1 = .ok (.invokestatic 98, 3) := by decide +kernel
theorem dX11_name_4 : decode cX11_name 4 = .ok (.ifCond .ne 10, 3) := by decide +kernel
theorem dX11_name_7 : decode cX11_name 7 = .ok (.iload_n 2, 1) := by decide +kernel
theorem dX11_name_8 : decode cX11_name 8 = .ok (.invokestatic 98, 3) := by decide +kernel
theorem dX11_name_11 : decode cX11_name 11 = .ok (.ifCond .eq 6, 3) := by decide +kernel
theorem dX11_name_14 : decode cX11_name 14 = .ok (.ldc 64, 2) := by decide +kernel
theorem dX11_name_16 : decode cX11_name 16 = .ok (.ireturn, 1) := by decide +kernel
theorem dX11_name_17 : decode cX11_name 17 = .ok (.aload_n 0, 1) := by decide +kernel
theorem dX11_name_18 : decode cX11_name 18 = .ok (.getfield 20, 3) := by decide +kernel
theorem dX11_name_21 : decode cX11_name 21 = .ok (.iload_n 2, 1) := by decide +kernel
theorem dX11_name_22 : decode cX11_name 22 = .ok (.aaload, 1) := by decide +kernel
theorem dX11_name_23 : decode cX11_name 23 = .ok (.astore_n 3, 1) := by decide +kernel
theorem dX11_name_24 : decode cX11_name 24 = .ok (.aload_n 3, 1) := by decide +kernel
theorem dX11_name_25 : decode cX11_name 25 = .ok (.ifnonnull 9, 3) := by decide +kernel
theorem dX11_name_28 : decode cX11_name 28 = .ok (.aload_n 0, 1) := by decide +kernel
theorem dX11_name_29 : decode cX11_name 29 = .ok (.iconst 1, 1) := by decide +kernel
theorem dX11_name_30 : decode cX11_name 30 = .ok (.invokevirtual 65, 3) := by decide +kernel
theorem dX11_name_33 : decode cX11_name 33 = .ok (.ireturn, 1) := by decide +kernel
theorem dX11_name_34 : decode cX11_name 34 = .ok (.aload_n 3, 1) := by decide +kernel
theorem dX11_name_35 : decode cX11_name 35 = .ok (.invokevirtual 136, 3) := by decide +kernel
theorem dX11_name_38 : decode cX11_name 38 = .ok (.ifCond .ne 9, 3) := by decide +kernel
theorem dX11_name_41 : decode cX11_name 41 = .ok (.aload_n 0, 1) := by decide +kernel
theorem dX11_name_42 : decode cX11_name 42 = .ok (.iconst 3, 1) := by decide +kernel
theorem dX11_name_43 : decode cX11_name 43 = .ok (.invokevirtual 65, 3) := by decide +kernel
theorem dX11_name_46 : decode cX11_name 46 = .ok (.ireturn, 1) := by decide +kernel
theorem dX11_name_47 : decode cX11_name 47 = .ok (.aload_n 0, 1) := by decide +kernel
theorem dX11_name_48 : decode cX11_name 48 = .ok (.getfield 35, 3) := by decide +kernel
theorem dX11_name_51 : decode cX11_name 51 = .ok (.aload_n 3, 1) := by decide +kernel
theorem dX11_name_52 : decode cX11_name 52 = .ok (.getfield 139, 3) := by decide +kernel
theorem dX11_name_55 : decode cX11_name 55 = .ok (.aload_n 3, 1) := by decide +kernel
theorem dX11_name_56 : decode cX11_name 56 = .ok (.getfield 143, 3) := by decide +kernel
theorem dX11_name_59 : decode cX11_name 59 = .ok (.invokevirtual 146, 3) := by decide +kernel
theorem dX11_name_62 : decode cX11_name 62 = .ok (.aload_n 0, 1) := by decide +kernel
theorem dX11_name_63 : decode cX11_name 63 = .ok (.iload_n 1, 1) := by decide +kernel
theorem dX11_name_64 : decode cX11_name 64 = .ok (.aload_n 3, 1) := by decide +kernel
theorem dX11_name_65 : decode cX11_name 65 = .ok (.getfield 143, 3) := by decide +kernel
theorem dX11_name_68 : decode cX11_name 68 = .ok (.aload_n 0, 1) := by decide +kernel
theorem dX11_name_69 : decode cX11_name 69 = .ok (.getfield 35, 3) := by decide +kernel
theorem dX11_name_72 : decode cX11_name 72 = .ok (.getfield 150, 3) := by decide +kernel
theorem dX11_name_75 : decode cX11_name 75 = .ok (.aload_n 3, 1) := by decide +kernel
theorem dX11_name_76 : decode cX11_name 76 = .ok (.getfield 139, 3) := by decide +kernel
theorem dX11_name_79 : decode cX11_name 79 = .ok (.arraylength, 1) := by decide +kernel
theorem dX11_name_80 : decode cX11_name 80 = .ok (.invokestatic 153, 3) := by decide +kernel
theorem dX11_name_83 : decode cX11_name 83 = .ok (.invokestatic 121, 3) := by decide +kernel
theorem dX11_name_86 : decode cX11_name 86 = .ok (.invokevirtual 125, 3) := by decide +kernel
theorem dX11_name_89 : decode cX11_name 89 = .ok (.ireturn, 1) := by decide +kernel
theorem dX11_between_0 : decode cX11_between 0 = .ok (.iload_n 1, 1) := by decide +kernel
theorem dX11_between_1 : decode cX11_between 1 = .ok (.invokestatic 98, 3) := by decide +kernel
theorem dX11_between_4 : decode cX11_between 4 = .ok (.ifCond .ne 10, 3) := by decide +kernel
theorem dX11_between_7 : decode cX11_between 7 = .ok (.iload_n 2, 1) := by decide +kernel
theorem dX11_between_8 : decode cX11_between 8 = .ok (.invokestatic 98, 3) := by decide +kernel
theorem dX11_between_11 : decode cX11_between 11 = .ok (.ifCond .eq 6, 3) := by decide +kernel
theorem dX11_between_14 : decode cX11_between 14 = .ok (.ldc 64, 2) := by decide +kernel
theorem dX11_between_16 : decode cX11_between 16 = .ok (.ireturn, 1) := by decide +kernel
theorem dX11_between_17 : decode cX11_between 17 = .ok (.aload_n 0, 1) := by decide +kernel
theorem dX11_between_18 : decode cX11_between 18 = .ok (.getfield 20, 3) := by decide +kernel
theorem dX11_between_21 : decode cX11_between 21 = .ok (.iload_n 2, 1) := by decide +kernel
theorem dX11_between_22 : decode cX11_between 22 = .ok (.aaload, 1) := by decide +kernel
theorem dX11_between_23 : decode cX11_between 23 = .ok (.astore 5, 2) := by decide +kernel
theorem dX11_between_25 : decode cX11_between 25 = .ok (.aload 5, 2) := by decide +kernel
theorem dX11_between_27 : decode cX11_between 27 = .ok (.ifnonnull 9, 3) := by decide +kernel
theorem dX11_between_30 : decode cX11_between 30 = .ok (.aload_n 0, 1) := by decide +kernel
theorem dX11_between_31 : decode cX11_between 31 = .ok (.iconst 1, 1) := by decide +kernel
theorem dX11_between_32 : decode cX11_between 32 = .ok (.invokevirtual 65, 3) := by decide +kernel
theorem dX11_between_35 : decode cX11_between 35 = .ok (.ireturn, 1) := by decide +kernel
theorem dX11_between_36 : decode cX11_between 36 = .ok (.aload 5, 2) := by decide +kernel
theorem dX11_between_38 : decode cX11_between 38 = .ok (.invokevirtual 136, 3) := by decide +kernel
theorem dX11_between_41 : decode cX11_between 41 = .ok (.ifCond .ne 9, 3) := by decide +kernel
theorem dX11_between_44 : decode cX11_between 44 = .ok (.aload_n 0, 1) := by decide +kernel
theorem dX11_between_45 : decode cX11_between 45 = .ok (.iconst 3, 1) := by decide +kernel
theorem dX11_between_46 : decode cX11_between 46 = .ok (.invokevirtual 65, 3) := by decide +kernel
theorem dX11_between_49 : decode cX11_between 49 = .ok (.ireturn, 1) := by decide +kernel
theorem dX11_between_50 : decode cX11_between 50 = .ok (.aload 5, 2) := by decide +kernel
theorem dX11_between_52 : decode cX11_between 52 = .ok (.iload_n 3, 1) := by decide +kernel
theorem dX11_between_53 : decode cX11_between 53 = .ok (.invokevirtual 159, 3) := by decide +kernel
theorem dX11_between_56 : decode cX11_between 56 = .ok (.ifCond .ne 13, 3) := by decide +kernel
theorem dX11_between_59 : decode cX11_between 59 = .ok (.aload 5, 2) := by decide +kernel
theorem dX11_between_61 : decode cX11_between 61 = .ok (.iload 4, 2) := by decide +kernel
theorem dX11_between_63 : decode cX11_between 63 = .ok (.invokevirtual 159, 3) := by decide +kernel
theorem dX11_between_66 : decode cX11_between 66 = .ok (.ifCond .eq 6, 3) := by decide +kernel
theorem dX11_between_69 : decode cX11_between 69 = .ok (.ldc 64, 2) := by decide +kernel
theorem dX11_between_71 : decode cX11_between 71 = .ok (.ireturn, 1) := by decide +kernel
theorem dX11_between_72 : decode cX11_between 72 = .ok (.aload_n 0, 1) := by decide +kernel
theorem dX11_between_73 : decode cX11_between 73 = .ok (.iload_n 1, 1) := by decide +kernel
theorem dX11_between_74 : decode cX11_between 74 = .ok (.aload 5, 2) := by decide +kernel
theorem dX11_between_76 : decode cX11_between 76 = .ok (.iload_n 3, 1) := by decide +kernel
theorem dX11_between_77 : decode cX11_between 77 = .ok (.iload 4, 2) := by decide +kernel
theorem dX11_between_79 : decode cX11_between 79 = .ok (.invokevirtual 162, 3) := by decide +kernel
theorem dX11_between_82 : decode cX11_between 82 = .ok (.invokevirtual 125, 3) := by decide +kernel
theorem dX11_between_85 : decode cX11_between 85 = .ok (.ireturn, 1) := by decide +kernel
theorem dX11_braid_0 : decode cX11_braid 0 = .ok (.iload_n 1, 1) := by decide +kernel
theorem dX11_braid_1 : decode cX11_braid 1 = .ok (.invokestatic 98, 3) := by decide +kernel
theorem dX11_braid_4 : decode cX11_braid 4 = .ok (.ifCond .ne 21, 3) := by decide +kernel
theorem dX11_braid_7 : decode cX11_braid 7 = .ok (.iload_n 2, 1) := by decide +kernel
theorem dX11_braid_8 : decode cX11_braid 8 = .ok (.invokestatic 98, 3) := by decide +kernel
theorem dX11_braid_11 : decode cX11_braid 11 = .ok (.ifCond .ne 14, 3) := by decide +kernel
theorem dX11_braid_14 : decode cX11_braid 14 = .ok (.iload 4, 2) := by decide +kernel
theorem dX11_braid_16 : decode cX11_braid 16 = .ok (.ifCond .lt 9, 3) := by decide +kernel
theorem dX11_braid_19 : decode cX11_braid 19 = .ok (.iload 4, 2) := by decide +kernel
theorem dX11_braid_21 : decode cX11_braid 21 = .ok (.iconst 1, 1) := by decide +kernel
theorem dX11_braid_22 : decode cX11_braid 22 = .ok (.if_icmp .le 6, 3) := by decide +kernel
theorem dX11_braid_25 : decode cX11_braid 25 = .ok (.ldc 64, 2) := by decide +kernel
theorem dX11_braid_27 : decode cX11_braid 27 = .ok (.ireturn, 1) := by decide +kernel
theorem dX11_braid_28 : decode cX11_braid 28 = .ok (.aload_n 0, 1) := by decide +kernel
theorem dX11_braid_29 : decode cX11_braid 29 = .ok (.getfield 20, 3) := by decide +kernel
theorem dX11_braid_32 : decode cX11_braid 32 = .ok (.iload_n 2, 1) := by decide +kernel
theorem dX11_braid_33 : decode cX11_braid 33 = .ok (.aaload, 1) := by decide +kernel
theorem dX11_braid_34 : decode cX11_braid 34 = .ok (.astore 5, 2) := by decide +kernel
theorem dX11_braid_36 : decode cX11_braid 36 = .ok (.aload 5, 2) := by decide +kernel
theorem dX11_braid_38 : decode cX11_braid 38 = .ok (.ifnonnull 9, 3) := by decide +kernel
theorem dX11_braid_41 : decode cX11_braid 41 = .ok (.aload_n 0, 1) := by decide +kernel
theorem dX11_braid_42 : decode cX11_braid 42 = .ok (.iconst 1, 1) := by decide +kernel
theorem dX11_braid_43 : decode cX11_braid 43 = .ok (.invokevirtual 65, 3) := by decide +kernel
theorem dX11_braid_46 : decode cX11_braid 46 = .ok (.ireturn, 1) := by decide +kernel
theorem dX11_braid_47 : decode cX11_braid 47 = .ok (.iload_n 3, 1) := by decide +kernel
theorem dX11_braid_48 : decode cX11_braid 48 = .ok (.ifCond .lt 15, 3) := by decide +kernel
theorem dX11_braid_51 : decode cX11_braid 51 = .ok (.iload_n 3, 1) := by decide +kernel
theorem dX11_braid_52 : decode cX11_braid 52 = .ok (.aload 5, 2) := by decide +kernel
theorem dX11_braid_54 : decode cX11_braid 54 = .ok (.getfield 139, 3) := by decide +kernel
theorem dX11_braid_57 : decode cX11_braid 57 = .ok (.arraylength, 1) := by decide +kernel
theorem dX11_braid_58 : decode cX11_braid 58 = .ok (.iconst 1, 1) := by decide +kernel
theorem dX11_braid_59 : decode cX11_braid 59 = .ok (.isub, 1) := by decide +kernel
theorem dX11_braid_60 : decode cX11_braid 60 = .ok (.if_icmp .lt 6, 3) := by decide +kernel
theorem dX11_braid_63 : decode cX11_braid 63 = .ok (.ldc 64, 2) := by decide +kernel
theorem dX11_braid_65 : decode cX11_braid 65 = .ok (.ireturn, 1) := by decide +kernel
theorem dX11_braid_66 : decode cX11_braid 66 = .ok (.aload_n 0, 1) := by decide +kernel
theorem dX11_braid_67 : decode cX11_braid 67 = .ok (.iload_n 1, 1) := by decide +kernel
theorem dX11_braid_68 : decode cX11_braid 68 = .ok (.aload 5, 2) := by decide +kernel
theorem dX11_braid_70 : decode cX11_braid 70 = .ok (.iload_n 3, 1) := by decide +kernel
theorem dX11_braid_71 : decode cX11_braid 71 = .ok (.iload 4, 2) := by decide +kernel
theorem dX11_braid_73 : decode cX11_braid 73 = .ok (.ifCond .ne 7, 3) := by decide +kernel
theorem dX11_braid_76 : decode cX11_braid 76 = .ok (.iconst 1, 1) := by decide +kernel
theorem dX11_braid_77 : decode cX11_braid 77 = .ok (.goto 4, 3) := by decide +kernel
theorem dX11_braid_80 : decode cX11_braid 80 = .ok (.iconst 0, 1) := by decide +kernel
theorem dX11_braid_81 : decode cX11_braid 81 = .ok (.invokevirtual 166, 3) := by decide +kernel
theorem dX11_braid_84 : decode cX11_braid 84 = .ok (.invokevirtual 125, 3) := by decide +kernel
theorem dX11_braid_87 : decode cX11_braid 87 = .ok (.ireturn, 1) := by decide +kernel
theorem dX11_turn_0 : decode cX11_turn 0 = .ok (.iload_n 1, 1) := by decide +kernel
theorem dX11_turn_1 : decode cX11_turn 1 = .ok (.invokestatic 98, 3) := by decide +kernel
theorem dX11_turn_4 : decode cX11_turn 4 = .ok (.ifCond .ne 19, 3) := by decide +kernel
theorem dX11_turn_7 : decode cX11_turn 7 = .ok (.iload_n 2, 1) := by decide +kernel
theorem dX11_turn_8 : decode cX11_turn 8 = .ok (.invokestatic 98, 3) := by decide +kernel
theorem dX11_turn_11 : decode cX11_turn 11 = .ok (.ifCond .ne 12, 3) := by decide +kernel
theorem dX11_turn_14 : decode cX11_turn 14 = .ok (.iload_n 3, 1) := by decide +kernel
theorem dX11_turn_15 : decode cX11_turn 15 = .ok (.ifCond .lt 8, 3) := by decide +kernel
theorem dX11_turn_18 : decode cX11_turn 18 = .ok (.iload_n 3, 1) := by decide +kernel
theorem dX11_turn_19 : decode cX11_turn 19 = .ok (.iconst 1, 1) := by decide +kernel
theorem dX11_turn_20 : decode cX11_turn 20 = .ok (.if_icmp .le 6, 3) := by decide +kernel
theorem dX11_turn_23 : decode cX11_turn 23 = .ok (.ldc 64, 2) := by decide +kernel
theorem dX11_turn_25 : decode cX11_turn 25 = .ok (.ireturn, 1) := by decide +kernel
theorem dX11_turn_26 : decode cX11_turn 26 = .ok (.aload_n 0, 1) := by decide +kernel
theorem dX11_turn_27 : decode cX11_turn 27 = .ok (.getfield 20, 3) := by decide +kernel
theorem dX11_turn_30 : decode cX11_turn 30 = .ok (.iload_n 2, 1) := by decide +kernel
theorem dX11_turn_31 : decode cX11_turn 31 = .ok (.aaload, 1) := by decide +kernel
theorem dX11_turn_32 : decode cX11_turn 32 = .ok (.astore 4, 2) := by decide +kernel
theorem dX11_turn_34 : decode cX11_turn 34 = .ok (.aload 4, 2) := by decide +kernel
theorem dX11_turn_36 : decode cX11_turn 36 = .ok (.ifnonnull 9, 3) := by decide +kernel
theorem dX11_turn_39 : decode cX11_turn 39 = .ok (.aload_n 0, 1) := by decide +kernel
theorem dX11_turn_40 : decode cX11_turn 40 = .ok (.iconst 1, 1) := by decide +kernel
theorem dX11_turn_41 : decode cX11_turn 41 = .ok (.invokevirtual 65, 3) := by decide +kernel
theorem dX11_turn_44 : decode cX11_turn 44 = .ok (.ireturn, 1) := by decide +kernel
theorem dX11_turn_45 : decode cX11_turn 45 = .ok (.iload_n 3, 1) := by decide +kernel
theorem dX11_turn_46 : decode cX11_turn 46 = .ok (.ifCond .ne 14, 3) := by decide +kernel
theorem dX11_turn_49 : decode cX11_turn 49 = .ok (.aload_n 0, 1) := by decide +kernel
theorem dX11_turn_50 : decode cX11_turn 50 = .ok (.iload_n 1, 1) := by decide +kernel
theorem dX11_turn_51 : decode cX11_turn 51 = .ok (.aload 4, 2) := by decide +kernel
theorem dX11_turn_53 : decode cX11_turn 53 = .ok (.invokevirtual 170, 3) := by decide +kernel
theorem dX11_turn_56 : decode cX11_turn 56 = .ok (.invokevirtual 125, 3) := by decide +kernel
theorem dX11_turn_59 : decode cX11_turn 59 = .ok (.ireturn, 1) := by decide +kernel
theorem dX11_turn_60 : decode cX11_turn 60 = .ok (.aload 4, 2) := by decide +kernel
theorem dX11_turn_62 : decode cX11_turn 62 = .ok (.instanceof 174, 3) := by decide +kernel
theorem dX11_turn_65 : decode cX11_turn 65 = .ok (.ifCond .ne 9, 3) := by decide +kernel
theorem dX11_turn_68 : decode cX11_turn 68 = .ok (.aload_n 0, 1) := by decide +kernel
theorem dX11_turn_69 : decode cX11_turn 69 = .ok (.iconst 3, 1) := by decide +kernel
theorem dX11_turn_70 : decode cX11_turn 70 = .ok (.invokevirtual 65, 3) := by decide +kernel
theorem dX11_turn_73 : decode cX11_turn 73 = .ok (.ireturn, 1) := by decide +kernel
theorem dX11_turn_74 : decode cX11_turn 74 = .ok (.aload_n 0, 1) := by decide +kernel
theorem dX11_turn_75 : decode cX11_turn 75 = .ok (.iload_n 1, 1) := by decide +kernel
theorem dX11_turn_76 : decode cX11_turn 76 = .ok (.aload 4, 2) := by decide +kernel
theorem dX11_turn_78 : decode cX11_turn 78 = .ok (.iconst 0, 1) := by decide +kernel
theorem dX11_turn_79 : decode cX11_turn 79 = .ok (.iconst 1, 1) := by decide +kernel
theorem dX11_turn_80 : decode cX11_turn 80 = .ok (.invokevirtual 166, 3) := by decide +kernel
theorem dX11_turn_83 : decode cX11_turn 83 = .ok (.invokevirtual 125, 3) := by decide +kernel
theorem dX11_turn_86 : decode cX11_turn 86 = .ok (.ireturn, 1) := by decide +kernel
theorem dX11_over_0 : decode cX11_over 0 = .ok (.iload_n 1, 1) := by decide +kernel
theorem dX11_over_1 : decode cX11_over 1 = .ok (.invokestatic 98, 3) := by decide +kernel
theorem dX11_over_4 : decode cX11_over 4 = .ok (.ifCond .ne 17, 3) := by decide +kernel
theorem dX11_over_7 : decode cX11_over 7 = .ok (.iload_n 2, 1) := by decide +kernel
theorem dX11_over_8 : decode cX11_over 8 = .ok (.invokestatic 98, 3) := by decide +kernel
theorem dX11_over_11 : decode cX11_over 11 = .ok (.ifCond .ne 10, 3) := by decide +kernel
theorem dX11_over_14 : decode cX11_over 14 = .ok (.iload_n 3, 1) := by decide +kernel
theorem dX11_over_15 : decode cX11_over 15 = .ok (.invokestatic 98, 3) := by decide +kernel
theorem dX11_over_18 : decode cX11_over 18 = .ok (.ifCond .eq 6, 3) := by decide +kernel
theorem dX11_over_21 : decode cX11_over 21 = .ok (.ldc 64, 2) := by decide +kernel
theorem dX11_over_23 : decode cX11_over 23 = .ok (.ireturn, 1) := by decide +kernel
theorem dX11_over_24 : decode cX11_over 24 = .ok (.aload_n 0, 1) := by decide +kernel
theorem dX11_over_25 : decode cX11_over 25 = .ok (.getfield 20, 3) := by decide +kernel
theorem dX11_over_28 : decode cX11_over 28 = .ok (.iload_n 2, 1) := by decide +kernel
theorem dX11_over_29 : decode cX11_over 29 = .ok (.aaload, 1) := by decide +kernel
theorem dX11_over_30 : decode cX11_over 30 = .ok (.astore 4, 2) := by decide +kernel
theorem dX11_over_32 : decode cX11_over 32 = .ok (.aload_n 0, 1) := by decide +kernel
theorem dX11_over_33 : decode cX11_over 33 = .ok (.getfield 20, 3) := by decide +kernel
theorem dX11_over_36 : decode cX11_over 36 = .ok (.iload_n 3, 1) := by decide +kernel
theorem dX11_over_37 : decode cX11_over 37 = .ok (.aaload, 1) := by decide +kernel
theorem dX11_over_38 : decode cX11_over 38 = .ok (.astore 5, 2) := by decide +kernel
theorem dX11_over_40 : decode cX11_over 40 = .ok (.aload 4, 2) := by decide +kernel
theorem dX11_over_42 : decode cX11_over 42 = .ok (.ifnull 8, 3) := by decide +kernel
theorem dX11_over_45 : decode cX11_over 45 = .ok (.aload 5, 2) := by decide +kernel
theorem dX11_over_47 : decode cX11_over 47 = .ok (.ifnonnull 9, 3) := by decide +kernel
theorem dX11_over_50 : decode cX11_over 50 = .ok (.aload_n 0, 1) := by decide +kernel
theorem dX11_over_51 : decode cX11_over 51 = .ok (.iconst 1, 1) := by decide +kernel
theorem dX11_over_52 : decode cX11_over 52 = .ok (.invokevirtual 65, 3) := by decide +kernel
theorem dX11_over_55 : decode cX11_over 55 = .ok (.ireturn, 1) := by decide +kernel
theorem dX11_over_56 : decode cX11_over 56 = .ok (.aload 4, 2) := by decide +kernel
theorem dX11_over_58 : decode cX11_over 58 = .ok (.getfield 139, 3) := by decide +kernel
theorem dX11_over_61 : decode cX11_over 61 = .ok (.arraylength, 1) := by decide +kernel
theorem dX11_over_62 : decode cX11_over 62 = .ok (.aload 5, 2) := by decide +kernel
theorem dX11_over_64 : decode cX11_over 64 = .ok (.getfield 139, 3) := by decide +kernel
theorem dX11_over_67 : decode cX11_over 67 = .ok (.arraylength, 1) := by decide +kernel
theorem dX11_over_68 : decode cX11_over 68 = .ok (.if_icmp .eq 6, 3) := by decide +kernel
theorem dX11_over_71 : decode cX11_over 71 = .ok (.ldc 64, 2) := by decide +kernel
theorem dX11_over_73 : decode cX11_over 73 = .ok (.ireturn, 1) := by decide +kernel
theorem dX11_over_74 : decode cX11_over 74 = .ok (.aload 4, 2) := by decide +kernel
theorem dX11_over_76 : decode cX11_over 76 = .ok (.getfield 143, 3) := by decide +kernel
theorem dX11_over_79 : decode cX11_over 79 = .ok (.aload 5, 2) := by decide +kernel
theorem dX11_over_81 : decode cX11_over 81 = .ok (.getfield 143, 3) := by decide +kernel
theorem dX11_over_84 : decode cX11_over 84 = .ok (.imul, 1) := by decide +kernel
theorem dX11_over_85 : decode cX11_over 85 = .ok (.bipush 12, 2) := by decide +kernel
theorem dX11_over_87 : decode cX11_over 87 = .ok (.if_icmp .le 6, 3) := by decide +kernel
theorem dX11_over_90 : decode cX11_over 90 = .ok (.ldc 176, 2) := by decide +kernel
theorem dX11_over_92 : decode cX11_over 92 = .ok (.ireturn, 1) := by decide +kernel
theorem dX11_over_93 : decode cX11_over 93 = .ok (.aload_n 0, 1) := by decide +kernel
theorem dX11_over_94 : decode cX11_over 94 = .ok (.iload_n 1, 1) := by decide +kernel
theorem dX11_over_95 : decode cX11_over 95 = .ok (.aload 4, 2) := by decide +kernel
theorem dX11_over_97 : decode cX11_over 97 = .ok (.aload 5, 2) := by decide +kernel
theorem dX11_over_99 : decode cX11_over 99 = .ok (.invokevirtual 177, 3) := by decide +kernel
theorem dX11_over_102 : decode cX11_over 102 = .ok (.invokevirtual 125, 3) := by decide +kernel
theorem dX11_over_105 : decode cX11_over 105 = .ok (.ireturn, 1) := by decide +kernel
theorem dX11_clear_0 : decode cX11_clear 0 = .ok (.iload_n 1, 1) := by decide +kernel
theorem dX11_clear_1 : decode cX11_clear 1 = .ok (.invokestatic 98, 3) := by decide +kernel
theorem dX11_clear_4 : decode cX11_clear 4 = .ok (.ifCond .eq 6, 3) := by decide +kernel
theorem dX11_clear_7 : decode cX11_clear 7 = .ok (.ldc 64, 2) := by decide +kernel
theorem dX11_clear_9 : decode cX11_clear 9 = .ok (.ireturn, 1) := by decide +kernel
theorem dX11_clear_10 : decode cX11_clear 10 = .ok (.aload_n 0, 1) := by decide +kernel
theorem dX11_clear_11 : decode cX11_clear 11 = .ok (.getfield 20, 3) := by decide +kernel
theorem dX11_clear_14 : decode cX11_clear 14 = .ok (.iload_n 1, 1) := by decide +kernel
theorem dX11_clear_15 : decode cX11_clear 15 = .ok (.aaload, 1) := by decide +kernel
theorem dX11_clear_16 : decode cX11_clear 16 = .ok (.ifnonnull 7, 3) := by decide +kernel
theorem dX11_clear_19 : decode cX11_clear 19 = .ok (.iconst 0, 1) := by decide +kernel
theorem dX11_clear_20 : decode cX11_clear 20 = .ok (.goto 4, 3) := by decide +kernel
theorem dX11_clear_23 : decode cX11_clear 23 = .ok (.iconst 1, 1) := by decide +kernel
theorem dX11_clear_24 : decode cX11_clear 24 = .ok (.istore_n 2, 1) := by decide +kernel
theorem dX11_clear_25 : decode cX11_clear 25 = .ok (.aload_n 0, 1) := by decide +kernel
theorem dX11_clear_26 : decode cX11_clear 26 = .ok (.getfield 20, 3) := by decide +kernel
theorem dX11_clear_29 : decode cX11_clear 29 = .ok (.iload_n 1, 1) := by decide +kernel
theorem dX11_clear_30 : decode cX11_clear 30 = .ok (.aconst_null, 1) := by decide +kernel
theorem dX11_clear_31 : decode cX11_clear 31 = .ok (.aastore, 1) := by decide +kernel
theorem dX11_clear_32 : decode cX11_clear 32 = .ok (.iload_n 2, 1) := by decide +kernel
theorem dX11_clear_33 : decode cX11_clear 33 = .ok (.ireturn, 1) := by decide +kernel
theorem dX11_told_0 : decode cX11_told 0 = .ok (.iload_n 1, 1) := by decide +kernel
theorem dX11_told_1 : decode cX11_told 1 = .ok (.invokestatic 98, 3) := by decide +kernel
theorem dX11_told_4 : decode cX11_told 4 = .ok (.ifCond .ne 12, 3) := by decide +kernel
theorem dX11_told_7 : decode cX11_told 7 = .ok (.iload_n 2, 1) := by decide +kernel
theorem dX11_told_8 : decode cX11_told 8 = .ok (.ifCond .lt 8, 3) := by decide +kernel
theorem dX11_told_11 : decode cX11_told 11 = .ok (.iload_n 2, 1) := by decide +kernel
theorem dX11_told_12 : decode cX11_told 12 = .ok (.iconst 5, 1) := by decide +kernel
theorem dX11_told_13 : decode cX11_told 13 = .ok (.if_icmp .le 6, 3) := by decide +kernel
theorem dX11_told_16 : decode cX11_told 16 = .ok (.ldc 64, 2) := by decide +kernel
theorem dX11_told_18 : decode cX11_told 18 = .ok (.ireturn, 1) := by decide +kernel
theorem dX11_told_19 : decode cX11_told 19 = .ok (.aload_n 0, 1) := by decide +kernel
theorem dX11_told_20 : decode cX11_told 20 = .ok (.getfield 20, 3) := by decide +kernel
theorem dX11_told_23 : decode cX11_told 23 = .ok (.iload_n 1, 1) := by decide +kernel
theorem dX11_told_24 : decode cX11_told 24 = .ok (.aaload, 1) := by decide +kernel
theorem dX11_told_25 : decode cX11_told 25 = .ok (.astore_n 3, 1) := by decide +kernel
theorem dX11_told_26 : decode cX11_told 26 = .ok (.aload_n 3, 1) := by decide +kernel
theorem dX11_told_27 : decode cX11_told 27 = .ok (.ifnonnull 9, 3) := by decide +kernel
theorem dX11_told_30 : decode cX11_told 30 = .ok (.aload_n 0, 1) := by decide +kernel
theorem dX11_told_31 : decode cX11_told 31 = .ok (.iconst 1, 1) := by decide +kernel
theorem dX11_told_32 : decode cX11_told 32 = .ok (.invokevirtual 65, 3) := by decide +kernel
theorem dX11_told_35 : decode cX11_told 35 = .ok (.ireturn, 1) := by decide +kernel
theorem dX11_told_36 : decode cX11_told 36 = .ok (.iload_n 2, 1) := by decide +kernel
theorem dX11_told_37 : decode cX11_told 37 = .ok (.iconst 3, 1) := by decide +kernel
theorem dX11_told_38 : decode cX11_told 38 = .ok (.if_icmp .eq 8, 3) := by decide +kernel
theorem dX11_told_41 : decode cX11_told 41 = .ok (.iload_n 2, 1) := by decide +kernel
theorem dX11_told_42 : decode cX11_told 42 = .ok (.iconst 4, 1) := by decide +kernel
theorem dX11_told_43 : decode cX11_told 43 = .ok (.if_icmp .ne 16, 3) := by decide +kernel
theorem dX11_told_46 : decode cX11_told 46 = .ok (.aload_n 3, 1) := by decide +kernel
theorem dX11_told_47 : decode cX11_told 47 = .ok (.invokevirtual 136, 3) := by decide +kernel
theorem dX11_told_50 : decode cX11_told 50 = .ok (.ifCond .ne 9, 3) := by decide +kernel
theorem dX11_told_53 : decode cX11_told 53 = .ok (.aload_n 0, 1) := by decide +kernel
theorem dX11_told_54 : decode cX11_told 54 = .ok (.iconst 3, 1) := by decide +kernel
theorem dX11_told_55 : decode cX11_told 55 = .ok (.invokevirtual 65, 3) := by decide +kernel
theorem dX11_told_58 : decode cX11_told 58 = .ok (.ireturn, 1) := by decide +kernel
theorem dX11_told_59 : decode cX11_told 59 = .ok (.aload_n 0, 1) := by decide +kernel
theorem dX11_told_60 : decode cX11_told 60 = .ok (.aload_n 0, 1) := by decide +kernel
theorem dX11_told_61 : decode cX11_told 61 = .ok (.aload_n 3, 1) := by decide +kernel
theorem dX11_told_62 : decode cX11_told 62 = .ok (.iload_n 2, 1) := by decide +kernel
theorem dX11_told_63 : decode cX11_told 63 = .ok (.invokevirtual 181, 3) := by decide +kernel
theorem dX11_told_66 : decode cX11_told 66 = .ok (.invokevirtual 69, 3) := by decide +kernel
theorem dX11_told_69 : decode cX11_told 69 = .ok (.ireturn, 1) := by decide +kernel
theorem dX11_leads_0 : decode cX11_leads 0 = .ok (.iload_n 1, 1) := by decide +kernel
theorem dX11_leads_1 : decode cX11_leads 1 = .ok (.invokestatic 98, 3) := by decide +kernel
theorem dX11_leads_4 : decode cX11_leads 4 = .ok (.ifCond .eq 6, 3) := by decide +kernel
theorem dX11_leads_7 : decode cX11_leads 7 = .ok (.ldc 64, 2) := by decide +kernel
theorem dX11_leads_9 : decode cX11_leads 9 = .ok (.ireturn, 1) := by decide +kernel
theorem dX11_leads_10 : decode cX11_leads 10 = .ok (.aload_n 0, 1) := by decide +kernel
theorem dX11_leads_11 : decode cX11_leads 11 = .ok (.getfield 20, 3) := by decide +kernel
theorem dX11_leads_14 : decode cX11_leads 14 = .ok (.iload_n 1, 1) := by decide +kernel
theorem dX11_leads_15 : decode cX11_leads 15 = .ok (.aaload, 1) := by decide +kernel
theorem dX11_leads_16 : decode cX11_leads 16 = .ok (.astore 4, 2) := by decide +kernel
theorem dX11_leads_18 : decode cX11_leads 18 = .ok (.aload 4, 2) := by decide +kernel
theorem dX11_leads_20 : decode cX11_leads 20 = .ok (.ifnonnull 9, 3) := by decide +kernel
theorem dX11_leads_23 : decode cX11_leads 23 = .ok (.aload_n 0, 1) := by decide +kernel
theorem dX11_leads_24 : decode cX11_leads 24 = .ok (.iconst 1, 1) := by decide +kernel
theorem dX11_leads_25 : decode cX11_leads 25 = .ok (.invokevirtual 65, 3) := by decide +kernel
theorem dX11_leads_28 : decode cX11_leads 28 = .ok (.ireturn, 1) := by decide +kernel
theorem dX11_leads_29 : decode cX11_leads 29 = .ok (.aload 4, 2) := by decide +kernel
theorem dX11_leads_31 : decode cX11_leads 31 = .ok (.iload_n 2, 1) := by decide +kernel
theorem dX11_leads_32 : decode cX11_leads 32 = .ok (.invokevirtual 185, 3) := by decide +kernel
theorem dX11_leads_35 : decode cX11_leads 35 = .ok (.ifCond .ne 12, 3) := by decide +kernel
theorem dX11_leads_38 : decode cX11_leads 38 = .ok (.aload 4, 2) := by decide +kernel
theorem dX11_leads_40 : decode cX11_leads 40 = .ok (.iload_n 3, 1) := by decide +kernel
theorem dX11_leads_41 : decode cX11_leads 41 = .ok (.invokevirtual 159, 3) := by decide +kernel
theorem dX11_leads_44 : decode cX11_leads 44 = .ok (.ifCond .eq 6, 3) := by decide +kernel
theorem dX11_leads_47 : decode cX11_leads 47 = .ok (.ldc 64, 2) := by decide +kernel
theorem dX11_leads_49 : decode cX11_leads 49 = .ok (.ireturn, 1) := by decide +kernel
theorem dX11_leads_50 : decode cX11_leads 50 = .ok (.aload_n 0, 1) := by decide +kernel
theorem dX11_leads_51 : decode cX11_leads 51 = .ok (.aload 4, 2) := by decide +kernel
theorem dX11_leads_53 : decode cX11_leads 53 = .ok (.iload_n 2, 1) := by decide +kernel
theorem dX11_leads_54 : decode cX11_leads 54 = .ok (.invokevirtual 188, 3) := by decide +kernel
theorem dX11_leads_57 : decode cX11_leads 57 = .ok (.iload_n 3, 1) := by decide +kernel
theorem dX11_leads_58 : decode cX11_leads 58 = .ok (.invokestatic 191, 3) := by decide +kernel
theorem dX11_leads_61 : decode cX11_leads 61 = .ok (.invokevirtual 69, 3) := by decide +kernel
theorem dX11_leads_64 : decode cX11_leads 64 = .ok (.ireturn, 1) := by decide +kernel
theorem dX11_shape_0 : decode cX11_shape 0 = .ok (.iload_n 1, 1) := by decide +kernel
theorem dX11_shape_1 : decode cX11_shape 1 = .ok (.invokestatic 98, 3) := by decide +kernel
theorem dX11_shape_4 : decode cX11_shape 4 = .ok (.ifCond .eq 6, 3) := by decide +kernel
theorem dX11_shape_7 : decode cX11_shape 7 = .ok (.ldc 64, 2) := by decide +kernel
theorem dX11_shape_9 : decode cX11_shape 9 = .ok (.ireturn, 1) := by decide +kernel
theorem dX11_shape_10 : decode cX11_shape 10 = .ok (.aload_n 0, 1) := by decide +kernel
theorem dX11_shape_11 : decode cX11_shape 11 = .ok (.getfield 20, 3) := by decide +kernel
theorem dX11_shape_14 : decode cX11_shape 14 = .ok (.iload_n 1, 1) := by decide +kernel
theorem dX11_shape_15 : decode cX11_shape 15 = .ok (.aaload, 1) := by decide +kernel
theorem dX11_shape_16 : decode cX11_shape 16 = .ok (.astore 4, 2) := by decide +kernel
theorem dX11_shape_18 : decode cX11_shape 18 = .ok (.aload 4, 2) := by decide +kernel
theorem dX11_shape_20 : decode cX11_shape 20 = .ok (.ifnonnull 9, 3) := by decide +kernel
theorem dX11_shape_23 : decode cX11_shape 23 = .ok (.aload_n 0, 1) := by decide +kernel
theorem dX11_shape_24 : decode cX11_shape 24 = .ok (.iconst 1, 1) := by decide +kernel
theorem dX11_shape_25 : decode cX11_shape 25 = .ok (.invokevirtual 65, 3) := by decide +kernel
theorem dX11_shape_28 : decode cX11_shape 28 = .ok (.ireturn, 1) := by decide +kernel
theorem dX11_shape_29 : decode cX11_shape 29 = .ok (.aload 4, 2) := by decide +kernel
theorem dX11_shape_31 : decode cX11_shape 31 = .ok (.iload_n 2, 1) := by decide +kernel
theorem dX11_shape_32 : decode cX11_shape 32 = .ok (.invokevirtual 185, 3) := by decide +kernel
theorem dX11_shape_35 : decode cX11_shape 35 = .ok (.ifCond .eq 6, 3) := by decide +kernel
theorem dX11_shape_38 : decode cX11_shape 38 = .ok (.ldc 64, 2) := by decide +kernel
theorem dX11_shape_40 : decode cX11_shape 40 = .ok (.ireturn, 1) := by decide +kernel
theorem dX11_shape_41 : decode cX11_shape 41 = .ok (.aload_n 0, 1) := by decide +kernel
theorem dX11_shape_42 : decode cX11_shape 42 = .ok (.aload 4, 2) := by decide +kernel
theorem dX11_shape_44 : decode cX11_shape 44 = .ok (.iload_n 2, 1) := by decide +kernel
theorem dX11_shape_45 : decode cX11_shape 45 = .ok (.invokevirtual 188, 3) := by decide +kernel
theorem dX11_shape_48 : decode cX11_shape 48 = .ok (.aload 4, 2) := by decide +kernel
theorem dX11_shape_50 : decode cX11_shape 50 = .ok (.getfield 143, 3) := by decide +kernel
theorem dX11_shape_53 : decode cX11_shape 53 = .ok (.invokestatic 195, 3) := by decide +kernel
theorem dX11_shape_56 : decode cX11_shape 56 = .ok (.iload_n 3, 1) := by decide +kernel
theorem dX11_shape_57 : decode cX11_shape 57 = .ok (.invokestatic 198, 3) := by decide +kernel
theorem dX11_shape_60 : decode cX11_shape 60 = .ok (.invokevirtual 69, 3) := by decide +kernel
theorem dX11_shape_63 : decode cX11_shape 63 = .ok (.ireturn, 1) := by decide +kernel
theorem dX11_block_0 : decode cX11_block 0 = .ok (.iload_n 1, 1) := by decide +kernel
theorem dX11_block_1 : decode cX11_block 1 = .ok (.invokestatic 98, 3) := by decide +kernel
theorem dX11_block_4 : decode cX11_block 4 = .ok (.ifCond .eq 6, 3) := by decide +kernel
theorem dX11_block_7 : decode cX11_block 7 = .ok (.ldc 64, 2) := by decide +kernel
theorem dX11_block_9 : decode cX11_block 9 = .ok (.ireturn, 1) := by decide +kernel
theorem dX11_block_10 : decode cX11_block 10 = .ok (.aload_n 0, 1) := by decide +kernel
theorem dX11_block_11 : decode cX11_block 11 = .ok (.getfield 20, 3) := by decide +kernel
theorem dX11_block_14 : decode cX11_block 14 = .ok (.iload_n 1, 1) := by decide +kernel
theorem dX11_block_15 : decode cX11_block 15 = .ok (.aaload, 1) := by decide +kernel
theorem dX11_block_16 : decode cX11_block 16 = .ok (.astore 5, 2) := by decide +kernel
theorem dX11_block_18 : decode cX11_block 18 = .ok (.aload 5, 2) := by decide +kernel
theorem dX11_block_20 : decode cX11_block 20 = .ok (.ifnonnull 9, 3) := by decide +kernel
theorem dX11_block_23 : decode cX11_block 23 = .ok (.aload_n 0, 1) := by decide +kernel
theorem dX11_block_24 : decode cX11_block 24 = .ok (.iconst 1, 1) := by decide +kernel
theorem dX11_block_25 : decode cX11_block 25 = .ok (.invokevirtual 65, 3) := by decide +kernel
theorem dX11_block_28 : decode cX11_block 28 = .ok (.ireturn, 1) := by decide +kernel
theorem dX11_block_29 : decode cX11_block 29 = .ok (.aload 5, 2) := by decide +kernel
theorem dX11_block_31 : decode cX11_block 31 = .ok (.invokevirtual 136, 3) := by decide +kernel
theorem dX11_block_34 : decode cX11_block 34 = .ok (.ifCond .ne 9, 3) := by decide +kernel
theorem dX11_block_37 : decode cX11_block 37 = .ok (.aload_n 0, 1) := by decide +kernel
theorem dX11_block_38 : decode cX11_block 38 = .ok (.iconst 3, 1) := by decide +kernel
theorem dX11_block_39 : decode cX11_block 39 = .ok (.invokevirtual 65, 3) := by decide +kernel
theorem dX11_block_42 : decode cX11_block 42 = .ok (.ireturn, 1) := by decide +kernel
theorem dX11_block_43 : decode cX11_block 43 = .ok (.aload 5, 2) := by decide +kernel
theorem dX11_block_45 : decode cX11_block 45 = .ok (.iload_n 2, 1) := by decide +kernel
theorem dX11_block_46 : decode cX11_block 46 = .ok (.invokevirtual 159, 3) := by decide +kernel
theorem dX11_block_49 : decode cX11_block 49 = .ok (.ifCond .ne 28, 3) := by decide +kernel
theorem dX11_block_52 : decode cX11_block 52 = .ok (.aload 5, 2) := by decide +kernel
theorem dX11_block_54 : decode cX11_block 54 = .ok (.iload_n 3, 1) := by decide +kernel
theorem dX11_block_55 : decode cX11_block 55 = .ok (.invokevirtual 159, 3) := by decide +kernel
theorem dX11_block_58 : decode cX11_block 58 = .ok (.ifCond .ne 19, 3) := by decide +kernel
theorem dX11_block_61 : decode cX11_block 61 = .ok (.iload 4, 2) := by decide +kernel
theorem dX11_block_63 : decode cX11_block 63 = .ok (.iconst (-1), 1) := by decide +kernel
theorem dX11_block_64 : decode cX11_block 64 = .ok (.if_icmp .eq 16, 3) := by decide +kernel
theorem dX11_block_67 : decode cX11_block 67 = .ok (.aload 5, 2) := by decide +kernel
theorem dX11_block_69 : decode cX11_block 69 = .ok (.iload 4, 2) := by decide +kernel
theorem dX11_block_71 : decode cX11_block 71 = .ok (.invokevirtual 159, 3) := by decide +kernel
theorem dX11_block_74 : decode cX11_block 74 = .ok (.ifCond .eq 6, 3) := by decide +kernel
theorem dX11_block_77 : decode cX11_block 77 = .ok (.ldc 64, 2) := by decide +kernel
theorem dX11_block_79 : decode cX11_block 79 = .ok (.ireturn, 1) := by decide +kernel
theorem dX11_block_80 : decode cX11_block 80 = .ok (.aload 5, 2) := by decide +kernel
theorem dX11_block_82 : decode cX11_block 82 = .ok (.iload_n 2, 1) := by decide +kernel
theorem dX11_block_83 : decode cX11_block 83 = .ok (.iload_n 3, 1) := by decide +kernel
theorem dX11_block_84 : decode cX11_block 84 = .ok (.invokevirtual 201, 3) := by decide +kernel
theorem dX11_block_87 : decode cX11_block 87 = .ok (.lstore 6, 2) := by decide +kernel
theorem dX11_block_89 : decode cX11_block 89 = .ok (.iload 4, 2) := by decide +kernel
theorem dX11_block_91 : decode cX11_block 91 = .ok (.iconst (-1), 1) := by decide +kernel
theorem dX11_block_92 : decode cX11_block 92 = .ok (.if_icmp .ne 18, 3) := by decide +kernel
theorem dX11_block_95 : decode cX11_block 95 = .ok (.aload_n 0, 1) := by decide +kernel
theorem dX11_block_96 : decode cX11_block 96 = .ok (.lload 6, 2) := by decide +kernel
theorem dX11_block_98 : decode cX11_block 98 = .ok (.aload 5, 2) := by decide +kernel
theorem dX11_block_100 : decode cX11_block 100 = .ok (.getfield 143, 3) := by decide +kernel
theorem dX11_block_103 : decode cX11_block 103 = .ok (.invokestatic 204, 3) := by decide +kernel
theorem dX11_block_106 : decode cX11_block 106 = .ok (.invokevirtual 69, 3) := by decide +kernel
theorem dX11_block_109 : decode cX11_block 109 = .ok (.ireturn, 1) := by decide +kernel
theorem dX11_block_110 : decode cX11_block 110 = .ok (.aload_n 0, 1) := by decide +kernel
theorem dX11_block_111 : decode cX11_block 111 = .ok (.lload 6, 2) := by decide +kernel
theorem dX11_block_113 : decode cX11_block 113 = .ok (.lload 6, 2) := by decide +kernel
theorem dX11_block_115 : decode cX11_block 115 = .ok (.iload 4, 2) := by decide +kernel
theorem dX11_block_117 : decode cX11_block 117 = .ok (.invokestatic 191, 3) := by decide +kernel
theorem dX11_block_120 : decode cX11_block 120 = .ok (.invokestatic 204, 3) := by decide +kernel
theorem dX11_block_123 : decode cX11_block 123 = .ok (.invokevirtual 69, 3) := by decide +kernel
theorem dX11_block_126 : decode cX11_block 126 = .ok (.ireturn, 1) := by decide +kernel
theorem dX11_same_0 : decode cX11_same 0 = .ok (.iload_n 1, 1) := by decide +kernel
theorem dX11_same_1 : decode cX11_same 1 = .ok (.invokestatic 98, 3) := by decide +kernel
theorem dX11_same_4 : decode cX11_same 4 = .ok (.ifCond .ne 10, 3) := by decide +kernel
theorem dX11_same_7 : decode cX11_same 7 = .ok (.iload_n 2, 1) := by decide +kernel
theorem dX11_same_8 : decode cX11_same 8 = .ok (.invokestatic 98, 3) := by decide +kernel
theorem dX11_same_11 : decode cX11_same 11 = .ok (.ifCond .eq 6, 3) := by decide +kernel
theorem dX11_same_14 : decode cX11_same 14 = .ok (.ldc 64, 2) := by decide +kernel
theorem dX11_same_16 : decode cX11_same 16 = .ok (.ireturn, 1) := by decide +kernel
theorem dX11_same_17 : decode cX11_same 17 = .ok (.aload_n 0, 1) := by decide +kernel
theorem dX11_same_18 : decode cX11_same 18 = .ok (.getfield 20, 3) := by decide +kernel
theorem dX11_same_21 : decode cX11_same 21 = .ok (.iload_n 1, 1) := by decide +kernel
theorem dX11_same_22 : decode cX11_same 22 = .ok (.aaload, 1) := by decide +kernel
theorem dX11_same_23 : decode cX11_same 23 = .ok (.astore_n 3, 1) := by decide +kernel
theorem dX11_same_24 : decode cX11_same 24 = .ok (.aload_n 0, 1) := by decide +kernel
theorem dX11_same_25 : decode cX11_same 25 = .ok (.getfield 20, 3) := by decide +kernel
theorem dX11_same_28 : decode cX11_same 28 = .ok (.iload_n 2, 1) := by decide +kernel
theorem dX11_same_29 : decode cX11_same 29 = .ok (.aaload, 1) := by decide +kernel
theorem dX11_same_30 : decode cX11_same 30 = .ok (.astore 4, 2) := by decide +kernel
theorem dX11_same_32 : decode cX11_same 32 = .ok (.aload_n 3, 1) := by decide +kernel
theorem dX11_same_33 : decode cX11_same 33 = .ok (.ifnonnull 9, 3) := by decide +kernel
theorem dX11_same_36 : decode cX11_same 36 = .ok (.aload_n 0, 1) := by decide +kernel
theorem dX11_same_37 : decode cX11_same 37 = .ok (.iconst 1, 1) := by decide +kernel
theorem dX11_same_38 : decode cX11_same 38 = .ok (.invokevirtual 65, 3) := by decide +kernel
theorem dX11_same_41 : decode cX11_same 41 = .ok (.ireturn, 1) := by decide +kernel
theorem dX11_same_42 : decode cX11_same 42 = .ok (.aload_n 3, 1) := by decide +kernel
theorem dX11_same_43 : decode cX11_same 43 = .ok (.invokevirtual 136, 3) := by decide +kernel
theorem dX11_same_46 : decode cX11_same 46 = .ok (.ifCond .ne 9, 3) := by decide +kernel
theorem dX11_same_49 : decode cX11_same 49 = .ok (.aload_n 0, 1) := by decide +kernel
theorem dX11_same_50 : decode cX11_same 50 = .ok (.iconst 3, 1) := by decide +kernel
