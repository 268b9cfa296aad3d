theorem dX0_init_0 : decode cX0_init 0 = .ok (.aload_n 0, 1) := by decide +kernel
theorem dX0_init_1 : decode cX0_init 1 = .ok (.iload_n 1, 1) := by decide +kernel
theorem dX0_init_2 : decode cX0_init 2 = .ok (.aload_n 2, 1) := by decide +kernel
theorem dX0_init_3 : decode cX0_init 3 = .ok (.iload_n 3, 1) := by decide +kernel
theorem dX0_init_4 : decode cX0_init 4 = .ok (.invokespecial 1, 3) := by decide +kernel
theorem dX0_init_7 : decode cX0_init 7 = .ok (.return_, 1) := by decide +kernel
theorem dX0_kindNumber_0 : decode cX0_kindNumber 0 = .ok (.iconst 3, 1) := by decide +kernel
theorem dX0_kindNumber_1 : decode cX0_kindNumber 1 = .ok (.ireturn, 1) := by decide +kernel
theorem dX0_sizeAsked_0 : decode cX0_sizeAsked 0 = .ok (.aload_n 1, 1) := by decide +kernel
theorem dX0_sizeAsked_1 : decode cX0_sizeAsked 1 = .ok (.bipush 13, 2) := by decide +kernel
theorem dX0_sizeAsked_3 : decode cX0_sizeAsked 3 = .ok (.invokevirtual 7, 3) := by decide +kernel
theorem dX0_sizeAsked_6 : decode cX0_sizeAsked 6 = .ok (.iconst 2, 1) := by decide +kernel
theorem dX0_sizeAsked_7 : decode cX0_sizeAsked 7 = .ok (.aload_n 0, 1) := by decide +kernel
theorem dX0_sizeAsked_8 : decode cX0_sizeAsked 8 = .ok (.aload_n 1, 1) := by decide +kernel
theorem dX0_sizeAsked_9 : decode cX0_sizeAsked 9 = .ok (.invokespecial 13, 3) := by decide +kernel
theorem dX0_sizeAsked_12 : decode cX0_sizeAsked 12 = .ok (.imul, 1) := by decide +kernel
theorem dX0_sizeAsked_13 : decode cX0_sizeAsked 13 = .ok (.ireturn, 1) := by decide +kernel
theorem dX1_init_0 : decode cX1_init 0 = .ok (.aload_n 0, 1) := by decide +kernel
theorem dX1_init_1 : decode cX1_init 1 = .ok (.invokespecial 1, 3) := by decide +kernel
theorem dX1_init_4 : decode cX1_init 4 = .ok (.aload_n 0, 1) := by decide +kernel
theorem dX1_init_5 : decode cX1_init 5 = .ok (.iload_n 1, 1) := by decide +kernel
theorem dX1_init_6 : decode cX1_init 6 = .ok (.putfield 7, 3) := by decide +kernel
theorem dX1_init_9 : decode cX1_init 9 = .ok (.aload_n 0, 1) := by decide +kernel
theorem dX1_init_10 : decode cX1_init 10 = .ok (.aload_n 2, 1) := by decide +kernel
theorem dX1_init_11 : decode cX1_init 11 = .ok (.putfield 13, 3) := by decide +kernel
theorem dX1_init_14 : decode cX1_init 14 = .ok (.aload_n 0, 1) := by decide +kernel
theorem dX1_init_15 : decode cX1_init 15 = .ok (.iload_n 3, 1) := by decide +kernel
theorem dX1_init_16 : decode cX1_init 16 = .ok (.putfield 17, 3) := by decide +kernel
theorem dX1_init_19 : decode cX1_init 19 = .ok (.return_, 1) := by decide +kernel
theorem dX1_of_0 : decode cX1_of 0 = .ok (.aload_n 1, 1) := by decide +kernel
theorem dX1_of_1 : decode cX1_of 1 = .ok (.iload_n 0, 1) := by decide +kernel
theorem dX1_of_2 : decode cX1_of 2 = .ok (.invokestatic 20, 3) := by decide +kernel
theorem dX1_of_5 : decode cX1_of 5 = .ok (.iload_n 0, 1) := by decide +kernel
theorem dX1_of_6 : decode cX1_of 6 = .ok (.invokestatic 26, 3) := by decide +kernel
theorem dX1_of_9 : decode cX1_of 9 = .ok (.istore_n 2, 1) := by decide +kernel
theorem dX1_of_10 : decode cX1_of 10 = .ok (.aload_n 1, 1) := by decide +kernel
theorem dX1_of_11 : decode cX1_of 11 = .ok (.arraylength, 1) := by decide +kernel
theorem dX1_of_12 : decode cX1_of 12 = .ok (.iconst 3, 1) := by decide +kernel
theorem dX1_of_13 : decode cX1_of 13 = .ok (.if_icmp .eq 35, 3) := by decide +kernel
theorem dX1_of_16 : decode cX1_of 16 = .ok (.iload_n 0, 1) := by decide +kernel
theorem dX1_of_17 : decode cX1_of 17 = .ok (.aload_n 1, 1) := by decide +kernel
theorem dX1_of_18 : decode cX1_of 18 = .ok (.invokestatic 30, 3) := by decide +kernel
theorem dX1_of_21 : decode cX1_of 21 = .ok (.ifCond .eq 16, 3) := by decide +kernel
theorem dX1_of_24 : decode cX1_of 24 = .ok (.new 34, 3) := by decide +kernel
theorem dX1_of_27 : decode cX1_of 27 = .ok (.dup, 1) := by decide +kernel
theorem dX1_of_28 : decode cX1_of 28 = .ok (.iload_n 0, 1) := by decide +kernel
theorem dX1_of_29 : decode cX1_of 29 = .ok (.aload_n 1, 1) := by decide +kernel
theorem dX1_of_30 : decode cX1_of 30 = .ok (.iload_n 2, 1) := by decide +kernel
theorem dX1_of_31 : decode cX1_of 31 = .ok (.invokespecial 36, 3) := by decide +kernel
theorem dX1_of_34 : decode cX1_of 34 = .ok (.goto 13, 3) := by decide +kernel
theorem dX1_of_37 : decode cX1_of 37 = .ok (.new 8, 3) := by decide +kernel
theorem dX1_of_40 : decode cX1_of 40 = .ok (.dup, 1) := by decide +kernel
theorem dX1_of_41 : decode cX1_of 41 = .ok (.iload_n 0, 1) := by decide +kernel
theorem dX1_of_42 : decode cX1_of 42 = .ok (.aload_n 1, 1) := by decide +kernel
theorem dX1_of_43 : decode cX1_of 43 = .ok (.iload_n 2, 1) := by decide +kernel
theorem dX1_of_44 : decode cX1_of 44 = .ok (.invokespecial 39, 3) := by decide +kernel
theorem dX1_of_47 : decode cX1_of 47 = .ok (.areturn, 1) := by decide +kernel
theorem dX1_of_48 : decode cX1_of 48 = .ok (.iload_n 0, 1) := by decide +kernel
theorem dX1_of_49 : decode cX1_of 49 = .ok (.iconst 2, 1) := by decide +kernel
theorem dX1_of_50 : decode cX1_of 50 = .ok (.idiv, 1) := by decide +kernel
theorem dX1_of_51 : decode cX1_of 51 = .ok (.i2l, 1) := by decide +kernel
theorem dX1_of_52 : decode cX1_of 52 = .ok (.iconst 2, 1) := by decide +kernel
theorem dX1_of_53 : decode cX1_of 53 = .ok (.invokestatic 40, 3) := by decide +kernel
theorem dX1_of_56 : decode cX1_of 56 = .ok (.lmul, 1) := by decide +kernel
theorem dX1_of_57 : decode cX1_of 57 = .ok (.lstore_n 3, 1) := by decide +kernel
theorem dX1_of_58 : decode cX1_of 58 = .ok (.iload_n 0, 1) := by decide +kernel
theorem dX1_of_59 : decode cX1_of 59 = .ok (.iconst 2, 1) := by decide +kernel
theorem dX1_of_60 : decode cX1_of 60 = .ok (.irem, 1) := by decide +kernel
theorem dX1_of_61 : decode cX1_of 61 = .ok (.ifCond .ne 15, 3) := by decide +kernel
theorem dX1_of_64 : decode cX1_of 64 = .ok (.aload_n 1, 1) := by decide +kernel
theorem dX1_of_65 : decode cX1_of 65 = .ok (.iconst 2, 1) := by decide +kernel
theorem dX1_of_66 : decode cX1_of 66 = .ok (.laload, 1) := by decide +kernel
theorem dX1_of_67 : decode cX1_of 67 = .ok (.iload_n 0, 1) := by decide +kernel
theorem dX1_of_68 : decode cX1_of 68 = .ok (.invokestatic 46, 3) := by decide +kernel
theorem dX1_of_71 : decode cX1_of 71 = .ok (.lload_n 3, 1) := by decide +kernel
theorem dX1_of_72 : decode cX1_of 72 = .ok (.lcmp, 1) := by decide +kernel
theorem dX1_of_73 : decode cX1_of 73 = .ok (.ifCond .eq 14, 3) := by decide +kernel
theorem dX1_of_76 : decode cX1_of 76 = .ok (.new 50, 3) := by decide +kernel
theorem dX1_of_79 : decode cX1_of 79 = .ok (.dup, 1) := by decide +kernel
theorem dX1_of_80 : decode cX1_of 80 = .ok (.iload_n 0, 1) := by decide +kernel
theorem dX1_of_81 : decode cX1_of 81 = .ok (.aload_n 1, 1) := by decide +kernel
theorem dX1_of_82 : decode cX1_of 82 = .ok (.iload_n 2, 1) := by decide +kernel
theorem dX1_of_83 : decode cX1_of 83 = .ok (.invokespecial 52, 3) := by decide +kernel
theorem dX1_of_86 : decode cX1_of 86 = .ok (.areturn, 1) := by decide +kernel
theorem dX1_of_87 : decode cX1_of 87 = .ok (.aload_n 1, 1) := by decide +kernel
theorem dX1_of_88 : decode cX1_of 88 = .ok (.iconst 1, 1) := by decide +kernel
theorem dX1_of_89 : decode cX1_of 89 = .ok (.laload, 1) := by decide +kernel
theorem dX1_of_90 : decode cX1_of 90 = .ok (.iload_n 0, 1) := by decide +kernel
theorem dX1_of_91 : decode cX1_of 91 = .ok (.invokestatic 46, 3) := by decide +kernel
theorem dX1_of_94 : decode cX1_of 94 = .ok (.iload_n 0, 1) := by decide +kernel
theorem dX1_of_95 : decode cX1_of 95 = .ok (.invokestatic 40, 3) := by decide +kernel
theorem dX1_of_98 : decode cX1_of 98 = .ok (.lcmp, 1) := by decide +kernel
theorem dX1_of_99 : decode cX1_of 99 = .ok (.ifCond .eq 14, 3) := by decide +kernel
theorem dX1_of_102 : decode cX1_of 102 = .ok (.new 53, 3) := by decide +kernel
theorem dX1_of_105 : decode cX1_of 105 = .ok (.dup, 1) := by decide +kernel
theorem dX1_of_106 : decode cX1_of 106 = .ok (.iload_n 0, 1) := by decide +kernel
theorem dX1_of_107 : decode cX1_of 107 = .ok (.aload_n 1, 1) := by decide +kernel
theorem dX1_of_108 : decode cX1_of 108 = .ok (.iload_n 2, 1) := by decide +kernel
theorem dX1_of_109 : decode cX1_of 109 = .ok (.invokespecial 55, 3) := by decide +kernel
theorem dX1_of_112 : decode cX1_of 112 = .ok (.areturn, 1) := by decide +kernel
theorem dX1_of_113 : decode cX1_of 113 = .ok (.new 56, 3) := by decide +kernel
theorem dX1_of_116 : decode cX1_of 116 = .ok (.dup, 1) := by decide +kernel
theorem dX1_of_117 : decode cX1_of 117 = .ok (.iload_n 0, 1) := by decide +kernel
theorem dX1_of_118 : decode cX1_of 118 = .ok (.aload_n 1, 1) := by decide +kernel
theorem dX1_of_119 : decode cX1_of 119 = .ok (.iload_n 2, 1) := by decide +kernel
theorem dX1_of_120 : decode cX1_of 120 = .ok (.invokespecial 58, 3) := by decide +kernel
theorem dX1_of_123 : decode cX1_of 123 = .ok (.areturn, 1) := by decide +kernel
theorem dX1_exchangesAhead_0 : decode cX1_exchangesAhead 0 = .ok (.iload_n 0, 1) := by decide +kernel
theorem dX1_exchangesAhead_1 : decode cX1_exchangesAhead 1 = .ok (.iconst 2, 1) := by decide +kernel
theorem dX1_exchangesAhead_2 : decode cX1_exchangesAhead 2 = .ok (.if_icmp .lt 9, 3) := by decide +kernel
theorem dX1_exchangesAhead_5 : decode cX1_exchangesAhead 5 = .ok (.aload_n 1, 1) := by decide +kernel
theorem dX1_exchangesAhead_6 : decode cX1_exchangesAhead 6 = .ok (.arraylength, 1) := by decide +kernel
theorem dX1_exchangesAhead_7 : decode cX1_exchangesAhead 7 = .ok (.iconst 2, 1) := by decide +kernel
theorem dX1_exchangesAhead_8 : decode cX1_exchangesAhead 8 = .ok (.if_icmp .ge 5, 3) := by decide +kernel
theorem dX1_exchangesAhead_11 : decode cX1_exchangesAhead 11 = .ok (.iconst 0, 1) := by decide +kernel
theorem dX1_exchangesAhead_12 : decode cX1_exchangesAhead 12 = .ok (.ireturn, 1) := by decide +kernel
theorem dX1_exchangesAhead_13 : decode cX1_exchangesAhead 13 = .ok (.iconst 2, 1) := by decide +kernel
theorem dX1_exchangesAhead_14 : decode cX1_exchangesAhead 14 = .ok (.invokestatic 40, 3) := by decide +kernel
theorem dX1_exchangesAhead_17 : decode cX1_exchangesAhead 17 = .ok (.iload_n 0, 1) := by decide +kernel
theorem dX1_exchangesAhead_18 : decode cX1_exchangesAhead 18 = .ok (.iconst 2, 1) := by decide +kernel
theorem dX1_exchangesAhead_19 : decode cX1_exchangesAhead 19 = .ok (.isub, 1) := by decide +kernel
theorem dX1_exchangesAhead_20 : decode cX1_exchangesAhead 20 = .ok (.i2l, 1) := by decide +kernel
theorem dX1_exchangesAhead_21 : decode cX1_exchangesAhead 21 = .ok (.iconst 1, 1) := by decide +kernel
theorem dX1_exchangesAhead_22 : decode cX1_exchangesAhead 22 = .ok (.invokestatic 40, 3) := by decide +kernel
theorem dX1_exchangesAhead_25 : decode cX1_exchangesAhead 25 = .ok (.lmul, 1) := by decide +kernel
theorem dX1_exchangesAhead_26 : decode cX1_exchangesAhead 26 = .ok (.ladd, 1) := by decide +kernel
theorem dX1_exchangesAhead_27 : decode cX1_exchangesAhead 27 = .ok (.lstore_n 2, 1) := by decide +kernel
theorem dX1_exchangesAhead_28 : decode cX1_exchangesAhead 28 = .ok (.iconst 0, 1) := by decide +kernel
theorem dX1_exchangesAhead_29 : decode cX1_exchangesAhead 29 = .ok (.istore 4, 2) := by decide +kernel
theorem dX1_exchangesAhead_31 : decode cX1_exchangesAhead 31 = .ok (.iload 4, 2) := by decide +kernel
theorem dX1_exchangesAhead_33 : decode cX1_exchangesAhead 33 = .ok (.aload_n 1, 1) := by decide +kernel
theorem dX1_exchangesAhead_34 : decode cX1_exchangesAhead 34 = .ok (.arraylength, 1) := by decide +kernel
theorem dX1_exchangesAhead_35 : decode cX1_exchangesAhead 35 = .ok (.iconst 1, 1) := by decide +kernel
theorem dX1_exchangesAhead_36 : decode cX1_exchangesAhead 36 = .ok (.isub, 1) := by decide +kernel
theorem dX1_exchangesAhead_37 : decode cX1_exchangesAhead 37 = .ok (.if_icmp .ge 24, 3) := by decide +kernel
theorem dX1_exchangesAhead_40 : decode cX1_exchangesAhead 40 = .ok (.aload_n 1, 1) := by decide +kernel
theorem dX1_exchangesAhead_41 : decode cX1_exchangesAhead 41 = .ok (.iload 4, 2) := by decide +kernel
theorem dX1_exchangesAhead_43 : decode cX1_exchangesAhead 43 = .ok (.laload, 1) := by decide +kernel
theorem dX1_exchangesAhead_44 : decode cX1_exchangesAhead 44 = .ok (.iload_n 0, 1) := by decide +kernel
theorem dX1_exchangesAhead_45 : decode cX1_exchangesAhead 45 = .ok (.invokestatic 46, 3) := by decide +kernel
theorem dX1_exchangesAhead_48 : decode cX1_exchangesAhead 48 = .ok (.lload_n 2, 1) := by decide +kernel
theorem dX1_exchangesAhead_49 : decode cX1_exchangesAhead 49 = .ok (.lcmp, 1) := by decide +kernel
theorem dX1_exchangesAhead_50 : decode cX1_exchangesAhead 50 = .ok (.ifCond .eq 5, 3) := by decide +kernel
theorem dX1_exchangesAhead_53 : decode cX1_exchangesAhead 53 = .ok (.iconst 0, 1) := by decide +kernel
theorem dX1_exchangesAhead_54 : decode cX1_exchangesAhead 54 = .ok (.ireturn, 1) := by decide +kernel
theorem dX1_exchangesAhead_55 : decode cX1_exchangesAhead 55 = .ok (.iinc 4 1, 3) := by decide +kernel
theorem dX1_exchangesAhead_58 : decode cX1_exchangesAhead 58 = .ok (.goto (-27), 3) := by decide +kernel
theorem dX1_exchangesAhead_61 : decode cX1_exchangesAhead 61 = .ok (.iconst 1, 1) := by decide +kernel
theorem dX1_exchangesAhead_62 : decode cX1_exchangesAhead 62 = .ok (.ireturn, 1) := by decide +kernel
theorem dX1_kindNumber_0 : decode cX1_kindNumber 0 = .ok (.iconst 0, 1) := by decide +kernel
theorem dX1_kindNumber_1 : decode cX1_kindNumber 1 = .ok (.ireturn, 1) := by decide +kernel
theorem dX1_sizeAsked_0 : decode cX1_sizeAsked 0 = .ok (.aload_n 1, 1) := by decide +kernel
theorem dX1_sizeAsked_1 : decode cX1_sizeAsked 1 = .ok (.bipush 10, 2) := by decide +kernel
theorem dX1_sizeAsked_3 : decode cX1_sizeAsked 3 = .ok (.invokevirtual 59, 3) := by decide +kernel
theorem dX1_sizeAsked_6 : decode cX1_sizeAsked 6 = .ok (.aload_n 0, 1) := by decide +kernel
theorem dX1_sizeAsked_7 : decode cX1_sizeAsked 7 = .ok (.getfield 7, 3) := by decide +kernel
theorem dX1_sizeAsked_10 : decode cX1_sizeAsked 10 = .ok (.ireturn, 1) := by decide +kernel
theorem dX1_markAsked_0 : decode cX1_markAsked 0 = .ok (.aload_n 1, 1) := by decide +kernel
theorem dX1_markAsked_1 : decode cX1_markAsked 1 = .ok (.bipush 20, 2) := by decide +kernel
theorem dX1_markAsked_3 : decode cX1_markAsked 3 = .ok (.invokevirtual 59, 3) := by decide +kernel
theorem dX1_markAsked_6 : decode cX1_markAsked 6 = .ok (.aload_n 0, 1) := by decide +kernel
theorem dX1_markAsked_7 : decode cX1_markAsked 7 = .ok (.getfield 17, 3) := by decide +kernel
theorem dX1_markAsked_10 : decode cX1_markAsked 10 = .ok (.ireturn, 1) := by decide +kernel
theorem dX1_noSheet_0 : decode cX1_noSheet 0 = .ok (.iload_n 1, 1) := by decide +kernel
theorem dX1_noSheet_1 : decode cX1_noSheet 1 = .ok (.ifCond .lt 11, 3) := by decide +kernel
theorem dX1_noSheet_4 : decode cX1_noSheet 4 = .ok (.iload_n 1, 1) := by decide +kernel
theorem dX1_noSheet_5 : decode cX1_noSheet 5 = .ok (.aload_n 0, 1) := by decide +kernel
theorem dX1_noSheet_6 : decode cX1_noSheet 6 = .ok (.getfield 7, 3) := by decide +kernel
theorem dX1_noSheet_9 : decode cX1_noSheet 9 = .ok (.if_icmp .lt 7, 3) := by decide +kernel
theorem dX1_noSheet_12 : decode cX1_noSheet 12 = .ok (.iconst 1, 1) := by decide +kernel
theorem dX1_noSheet_13 : decode cX1_noSheet 13 = .ok (.goto 4, 3) := by decide +kernel
theorem dX1_noSheet_16 : decode cX1_noSheet 16 = .ok (.iconst 0, 1) := by decide +kernel
theorem dX1_noSheet_17 : decode cX1_noSheet 17 = .ok (.ireturn, 1) := by decide +kernel
theorem dX1_noTurn_0 : decode cX1_noTurn 0 = .ok (.iload_n 1, 1) := by decide +kernel
theorem dX1_noTurn_1 : decode cX1_noTurn 1 = .ok (.ifCond .lt 12, 3) := by decide +kernel
theorem dX1_noTurn_4 : decode cX1_noTurn 4 = .ok (.iload_n 1, 1) := by decide +kernel
theorem dX1_noTurn_5 : decode cX1_noTurn 5 = .ok (.aload_n 0, 1) := by decide +kernel
theorem dX1_noTurn_6 : decode cX1_noTurn 6 = .ok (.getfield 13, 3) := by decide +kernel
theorem dX1_noTurn_9 : decode cX1_noTurn 9 = .ok (.arraylength, 1) := by decide +kernel
theorem dX1_noTurn_10 : decode cX1_noTurn 10 = .ok (.if_icmp .lt 7, 3) := by decide +kernel
theorem dX1_noTurn_13 : decode cX1_noTurn 13 = .ok (.iconst 1, 1) := by decide +kernel
theorem dX1_noTurn_14 : decode cX1_noTurn 14 = .ok (.goto 4, 3) := by decide +kernel
theorem dX1_noTurn_17 : decode cX1_noTurn 17 = .ok (.iconst 0, 1) := by decide +kernel
theorem dX1_noTurn_18 : decode cX1_noTurn 18 = .ok (.ireturn, 1) := by decide +kernel
theorem dX1_turnAt_0 : decode cX1_turnAt 0 = .ok (.aload_n 0, 1) := by decide +kernel
theorem dX1_turnAt_1 : decode cX1_turnAt 1 = .ok (.iload_n 1, 1) := by decide +kernel
theorem dX1_turnAt_2 : decode cX1_turnAt 2 = .ok (.invokevirtual 65, 3) := by decide +kernel
theorem dX1_turnAt_5 : decode cX1_turnAt 5 = .ok (.ifCond .eq 13, 3) := by decide +kernel
theorem dX1_turnAt_8 : decode cX1_turnAt 8 = .ok (.aload_n 0, 1) := by decide +kernel
theorem dX1_turnAt_9 : decode cX1_turnAt 9 = .ok (.getfield 7, 3) := by decide +kernel
theorem dX1_turnAt_12 : decode cX1_turnAt 12 = .ok (.invokestatic 69, 3) := by decide +kernel
theorem dX1_turnAt_15 : decode cX1_turnAt 15 = .ok (.goto 9, 3) := by decide +kernel
theorem dX1_turnAt_18 : decode cX1_turnAt 18 = .ok (.aload_n 0, 1) := by decide +kernel
theorem dX1_turnAt_19 : decode cX1_turnAt 19 = .ok (.getfield 13, 3) := by decide +kernel
theorem dX1_turnAt_22 : decode cX1_turnAt 22 = .ok (.iload_n 1, 1) := by decide +kernel
theorem dX1_turnAt_23 : decode cX1_turnAt 23 = .ok (.laload, 1) := by decide +kernel
theorem dX1_turnAt_24 : decode cX1_turnAt 24 = .ok (.lreturn, 1) := by decide +kernel
theorem dX1_noStep_0 : decode cX1_noStep 0 = .ok (.iload_n 1, 1) := by decide +kernel
theorem dX1_noStep_1 : decode cX1_noStep 1 = .ok (.ifCond .eq 22, 3) := by decide +kernel
theorem dX1_noStep_4 : decode cX1_noStep 4 = .ok (.iload_n 1, 1) := by decide +kernel
theorem dX1_noStep_5 : decode cX1_noStep 5 = .ok (.aload_n 0, 1) := by decide +kernel
theorem dX1_noStep_6 : decode cX1_noStep 6 = .ok (.getfield 13, 3) := by decide +kernel
theorem dX1_noStep_9 : decode cX1_noStep 9 = .ok (.arraylength, 1) := by decide +kernel
theorem dX1_noStep_10 : decode cX1_noStep 10 = .ok (.if_icmp .gt 13, 3) := by decide +kernel
theorem dX1_noStep_13 : decode cX1_noStep 13 = .ok (.iload_n 1, 1) := by decide +kernel
theorem dX1_noStep_14 : decode cX1_noStep 14 = .ok (.aload_n 0, 1) := by decide +kernel
theorem dX1_noStep_15 : decode cX1_noStep 15 = .ok (.getfield 13, 3) := by decide +kernel
theorem dX1_noStep_18 : decode cX1_noStep 18 = .ok (.arraylength, 1) := by decide +kernel
theorem dX1_noStep_19 : decode cX1_noStep 19 = .ok (.ineg, 1) := by decide +kernel
theorem dX1_noStep_20 : decode cX1_noStep 20 = .ok (.if_icmp .ge 7, 3) := by decide +kernel
theorem dX1_noStep_23 : decode cX1_noStep 23 = .ok (.iconst 1, 1) := by decide +kernel
theorem dX1_noStep_24 : decode cX1_noStep 24 = .ok (.goto 4, 3) := by decide +kernel
theorem dX1_noStep_27 : decode cX1_noStep 27 = .ok (.iconst 0, 1) := by decide +kernel
theorem dX1_noStep_28 : decode cX1_noStep 28 = .ok (.ireturn, 1) := by decide +kernel
theorem dX1_stepped_0 : decode cX1_stepped 0 = .ok (.iload_n 1, 1) := by decide +kernel
theorem dX1_stepped_1 : decode cX1_stepped 1 = .ok (.ifCond .le 15, 3) := by decide +kernel
theorem dX1_stepped_4 : decode cX1_stepped 4 = .ok (.aload_n 0, 1) := by decide +kernel
theorem dX1_stepped_5 : decode cX1_stepped 5 = .ok (.iload_n 1, 1) := by decide +kernel
theorem dX1_stepped_6 : decode cX1_stepped 6 = .ok (.iconst 1, 1) := by decide +kernel
theorem dX1_stepped_7 : decode cX1_stepped 7 = .ok (.isub, 1) := by decide +kernel
theorem dX1_stepped_8 : decode cX1_stepped 8 = .ok (.invokevirtual 72, 3) := by decide +kernel
theorem dX1_stepped_11 : decode cX1_stepped 11 = .ok (.iload_n 2, 1) := by decide +kernel
theorem dX1_stepped_12 : decode cX1_stepped 12 = .ok (.invokestatic 75, 3) := by decide +kernel
theorem dX1_stepped_15 : decode cX1_stepped 15 = .ok (.ireturn, 1) := by decide +kernel
theorem dX1_stepped_16 : decode cX1_stepped 16 = .ok (.aload_n 0, 1) := by decide +kernel
theorem dX1_stepped_17 : decode cX1_stepped 17 = .ok (.iload_n 1, 1) := by decide +kernel
theorem dX1_stepped_18 : decode cX1_stepped 18 = .ok (.ineg, 1) := by decide +kernel
theorem dX1_stepped_19 : decode cX1_stepped 19 = .ok (.iconst 1, 1) := by decide +kernel
theorem dX1_stepped_20 : decode cX1_stepped 20 = .ok (.isub, 1) := by decide +kernel
theorem dX1_stepped_21 : decode cX1_stepped 21 = .ok (.invokevirtual 72, 3) := by decide +kernel
theorem dX1_stepped_24 : decode cX1_stepped 24 = .ok (.aload_n 0, 1) := by decide +kernel
theorem dX1_stepped_25 : decode cX1_stepped 25 = .ok (.getfield 7, 3) := by decide +kernel
theorem dX1_stepped_28 : decode cX1_stepped 28 = .ok (.invokestatic 78, 3) := by decide +kernel
theorem dX1_stepped_31 : decode cX1_stepped 31 = .ok (.iload_n 2, 1) := by decide +kernel
theorem dX1_stepped_32 : decode cX1_stepped 32 = .ok (.invokestatic 75, 3) := by decide +kernel
theorem dX1_stepped_35 : decode cX1_stepped 35 = .ok (.ireturn, 1) := by decide +kernel
theorem dX1_rounds_0 : decode cX1_rounds 0 = .ok (.aload_n 0, 1) := by decide +kernel
theorem dX1_rounds_1 : decode cX1_rounds 1 = .ok (.iload_n 1, 1) := by decide +kernel
theorem dX1_rounds_2 : decode cX1_rounds 2 = .ok (.invokevirtual 72, 3) := by decide +kernel
theorem dX1_rounds_5 : decode cX1_rounds 5 = .ok (.aload_n 0, 1) := by decide +kernel
theorem dX1_rounds_6 : decode cX1_rounds 6 = .ok (.getfield 7, 3) := by decide +kernel
theorem dX1_rounds_9 : decode cX1_rounds 9 = .ok (.invokestatic 46, 3) := by decide +kernel
theorem dX1_rounds_12 : decode cX1_rounds 12 = .ok (.invokestatic 81, 3) := by decide +kernel
theorem dX1_rounds_15 : decode cX1_rounds 15 = .ok (.ireturn, 1) := by decide +kernel
theorem dX1_whole_0 : decode cX1_whole 0 = .ok (.aload_n 0, 1) := by decide +kernel
theorem dX1_whole_1 : decode cX1_whole 1 = .ok (.getfield 17, 3) := by decide +kernel
theorem dX1_whole_4 : decode cX1_whole 4 = .ok (.iconst 1, 1) := by decide +kernel
theorem dX1_whole_5 : decode cX1_whole 5 = .ok (.if_icmp .ne 7, 3) := by decide +kernel
theorem dX1_whole_8 : decode cX1_whole 8 = .ok (.iconst 1, 1) := by decide +kernel
theorem dX1_whole_9 : decode cX1_whole 9 = .ok (.goto 4, 3) := by decide +kernel
theorem dX1_whole_12 : decode cX1_whole 12 = .ok (.iconst 0, 1) := by decide +kernel
theorem dX1_whole_13 : decode cX1_whole 13 = .ok (.ireturn, 1) := by decide +kernel
theorem dX1_holes_0 : decode cX1_holes 0 = .ok (.iconst 2, 1) := by decide +kernel
theorem dX1_holes_1 : decode cX1_holes 1 = .ok (.iconst 2, 1) := by decide +kernel
theorem dX1_holes_2 : decode cX1_holes 2 = .ok (.aload_n 0, 1) := by decide +kernel
theorem dX1_holes_3 : decode cX1_holes 3 = .ok (.getfield 7, 3) := by decide +kernel
theorem dX1_holes_6 : decode cX1_holes 6 = .ok (.imul, 1) := by decide +kernel
theorem dX1_holes_7 : decode cX1_holes 7 = .ok (.isub, 1) := by decide +kernel
theorem dX1_holes_8 : decode cX1_holes 8 = .ok (.istore_n 1, 1) := by decide +kernel
theorem dX1_holes_9 : decode cX1_holes 9 = .ok (.iconst 0, 1) := by decide +kernel
theorem dX1_holes_10 : decode cX1_holes 10 = .ok (.istore_n 2, 1) := by decide +kernel
theorem dX1_holes_11 : decode cX1_holes 11 = .ok (.iload_n 2, 1) := by decide +kernel
theorem dX1_holes_12 : decode cX1_holes 12 = .ok (.aload_n 0, 1) := by decide +kernel
theorem dX1_holes_13 : decode cX1_holes 13 = .ok (.getfield 13, 3) := by decide +kernel
theorem dX1_holes_16 : decode cX1_holes 16 = .ok (.arraylength, 1) := by decide +kernel
theorem dX1_holes_17 : decode cX1_holes 17 = .ok (.if_icmp .ge 22, 3) := by decide +kernel
theorem dX1_holes_20 : decode cX1_holes 20 = .ok (.iload_n 1, 1) := by decide +kernel
theorem dX1_holes_21 : decode cX1_holes 21 = .ok (.aload_n 0, 1) := by decide +kernel
theorem dX1_holes_22 : decode cX1_holes 22 = .ok (.getfield 7, 3) := by decide +kernel
theorem dX1_holes_25 : decode cX1_holes 25 = .ok (.aload_n 0, 1) := by decide +kernel
theorem dX1_holes_26 : decode cX1_holes 26 = .ok (.iload_n 2, 1) := by decide +kernel
theorem dX1_holes_27 : decode cX1_holes 27 = .ok (.invokevirtual 85, 3) := by decide +kernel
theorem dX1_holes_30 : decode cX1_holes 30 = .ok (.isub, 1) := by decide +kernel
theorem dX1_holes_31 : decode cX1_holes 31 = .ok (.iadd, 1) := by decide +kernel
theorem dX1_holes_32 : decode cX1_holes 32 = .ok (.istore_n 1, 1) := by decide +kernel
theorem dX1_holes_33 : decode cX1_holes 33 = .ok (.iinc 2 1, 3) := by decide +kernel
theorem dX1_holes_36 : decode cX1_holes 36 = .ok (.goto (-25), 3) := by decide +kernel
theorem dX1_holes_39 : decode cX1_holes 39 = .ok (.iload_n 1, 1) := by decide +kernel
theorem dX1_holes_40 : decode cX1_holes 40 = .ok (.iconst 2, 1) := by decide +kernel
theorem dX1_holes_41 : decode cX1_holes 41 = .ok (.idiv, 1) := by decide +kernel
theorem dX1_holes_42 : decode cX1_holes 42 = .ok (.ireturn, 1) := by decide +kernel
theorem dX1_blockLabels_0 : decode cX1_blockLabels 0 = .ok (.aload_n 0, 1) := by decide +kernel
theorem dX1_blockLabels_1 : decode cX1_blockLabels 1 = .ok (.getfield 7, 3) := by decide +kernel
theorem dX1_blockLabels_4 : decode cX1_blockLabels 4 = .ok (.invokestatic 69, 3) := by decide +kernel
theorem dX1_blockLabels_7 : decode cX1_blockLabels 7 = .ok (.iload_n 1, 1) := by decide +kernel
theorem dX1_blockLabels_8 : decode cX1_blockLabels 8 = .ok (.iload_n 2, 1) := by decide +kernel
theorem dX1_blockLabels_9 : decode cX1_blockLabels 9 = .ok (.aload_n 0, 1) := by decide +kernel
theorem dX1_blockLabels_10 : decode cX1_blockLabels 10 = .ok (.getfield 7, 3) := by decide +kernel
theorem dX1_blockLabels_13 : decode cX1_blockLabels 13 = .ok (.invokestatic 89, 3) := by decide +kernel
theorem dX1_blockLabels_16 : decode cX1_blockLabels 16 = .ok (.lstore_n 3, 1) := by decide +kernel
theorem dX1_blockLabels_17 : decode cX1_blockLabels 17 = .ok (.iconst 0, 1) := by decide +kernel
theorem dX1_blockLabels_18 : decode cX1_blockLabels 18 = .ok (.istore 5, 2) := by decide +kernel
theorem dX1_blockLabels_20 : decode cX1_blockLabels 20 = .ok (.iload 5, 2) := by decide +kernel
theorem dX1_blockLabels_22 : decode cX1_blockLabels 22 = .ok (.aload_n 0, 1) := by decide +kernel
theorem dX1_blockLabels_23 : decode cX1_blockLabels 23 = .ok (.getfield 7, 3) := by decide +kernel
theorem dX1_blockLabels_26 : decode cX1_blockLabels 26 = .ok (.if_icmp .ge 72, 3) := by decide +kernel
theorem dX1_blockLabels_29 : decode cX1_blockLabels 29 = .ok (.lload_n 3, 1) := by decide +kernel
theorem dX1_blockLabels_30 : decode cX1_blockLabels 30 = .ok (.lstore 6, 2) := by decide +kernel
theorem dX1_blockLabels_32 : decode cX1_blockLabels 32 = .ok (.iconst 0, 1) := by decide +kernel
theorem dX1_blockLabels_33 : decode cX1_blockLabels 33 = .ok (.istore 8, 2) := by decide +kernel
theorem dX1_blockLabels_35 : decode cX1_blockLabels 35 = .ok (.iload 8, 2) := by decide +kernel
theorem dX1_blockLabels_37 : decode cX1_blockLabels 37 = .ok (.aload_n 0, 1) := by decide +kernel
theorem dX1_blockLabels_38 : decode cX1_blockLabels 38 = .ok (.getfield 13, 3) := by decide +kernel
theorem dX1_blockLabels_41 : decode cX1_blockLabels 41 = .ok (.arraylength, 1) := by decide +kernel
theorem dX1_blockLabels_42 : decode cX1_blockLabels 42 = .ok (.if_icmp .ge 40, 3) := by decide +kernel
theorem dX1_blockLabels_45 : decode cX1_blockLabels 45 = .ok (.lload_n 3, 1) := by decide +kernel
theorem dX1_blockLabels_46 : decode cX1_blockLabels 46 = .ok (.aload_n 0, 1) := by decide +kernel
theorem dX1_blockLabels_47 : decode cX1_blockLabels 47 = .ok (.getfield 13, 3) := by decide +kernel
theorem dX1_blockLabels_50 : decode cX1_blockLabels 50 = .ok (.iload 8, 2) := by decide +kernel
theorem dX1_blockLabels_52 : decode cX1_blockLabels 52 = .ok (.laload, 1) := by decide +kernel
theorem dX1_blockLabels_53 : decode cX1_blockLabels 53 = .ok (.lload_n 3, 1) := by decide +kernel
theorem dX1_blockLabels_54 : decode cX1_blockLabels 54 = .ok (.aload_n 0, 1) := by decide +kernel
theorem dX1_blockLabels_55 : decode cX1_blockLabels 55 = .ok (.getfield 13, 3) := by decide +kernel
theorem dX1_blockLabels_58 : decode cX1_blockLabels 58 = .ok (.iload 8, 2) := by decide +kernel
theorem dX1_blockLabels_60 : decode cX1_blockLabels 60 = .ok (.laload, 1) := by decide +kernel
theorem dX1_blockLabels_61 : decode cX1_blockLabels 61 = .ok (.aload_n 0, 1) := by decide +kernel
theorem dX1_blockLabels_62 : decode cX1_blockLabels 62 = .ok (.getfield 7, 3) := by decide +kernel
theorem dX1_blockLabels_65 : decode cX1_blockLabels 65 = .ok (.invokestatic 93, 3) := by decide +kernel
theorem dX1_blockLabels_68 : decode cX1_blockLabels 68 = .ok (.aload_n 0, 1) := by decide +kernel
theorem dX1_blockLabels_69 : decode cX1_blockLabels 69 = .ok (.getfield 7, 3) := by decide +kernel
theorem dX1_blockLabels_72 : decode cX1_blockLabels 72 = .ok (.invokestatic 97, 3) := by decide +kernel
theorem dX1_blockLabels_75 : decode cX1_blockLabels 75 = .ok (.lstore_n 3, 1) := by decide +kernel
theorem dX1_blockLabels_76 : decode cX1_blockLabels 76 = .ok (.iinc 8 1, 3) := by decide +kernel
theorem dX1_blockLabels_79 : decode cX1_blockLabels 79 = .ok (.goto (-44), 3) := by decide +kernel
theorem dX1_blockLabels_82 : decode cX1_blockLabels 82 = .ok (.lload_n 3, 1) := by decide +kernel
theorem dX1_blockLabels_83 : decode cX1_blockLabels 83 = .ok (.lload 6, 2) := by decide +kernel
theorem dX1_blockLabels_85 : decode cX1_blockLabels 85 = .ok (.lcmp, 1) := by decide +kernel
theorem dX1_blockLabels_86 : decode cX1_blockLabels 86 = .ok (.ifCond .ne 6, 3) := by decide +kernel
theorem dX1_blockLabels_89 : decode cX1_blockLabels 89 = .ok (.goto 9, 3) := by decide +kernel
theorem dX1_blockLabels_92 : decode cX1_blockLabels 92 = .ok (.iinc 5 1, 3) := by decide +kernel
theorem dX1_blockLabels_95 : decode cX1_blockLabels 95 = .ok (.goto (-75), 3) := by decide +kernel
theorem dX1_blockLabels_98 : decode cX1_blockLabels 98 = .ok (.lload_n 3, 1) := by decide +kernel
theorem dX1_blockLabels_99 : decode cX1_blockLabels 99 = .ok (.lreturn, 1) := by decide +kernel
theorem dX1_partAlone_0 : decode cX1_partAlone 0 = .ok (.aload_n 0, 1) := by decide +kernel
theorem dX1_partAlone_1 : decode cX1_partAlone 1 = .ok (.getfield 13, 3) := by decide +kernel
theorem dX1_partAlone_4 : decode cX1_partAlone 4 = .ok (.aload_n 0, 1) := by decide +kernel
theorem dX1_partAlone_5 : decode cX1_partAlone 5 = .ok (.getfield 7, 3) := by decide +kernel
theorem dX1_partAlone_8 : decode cX1_partAlone 8 = .ok (.invokestatic 20, 3) := by decide +kernel
theorem dX1_partAlone_11 : decode cX1_partAlone 11 = .ok (.lstore_n 2, 1) := by decide +kernel
theorem dX1_partAlone_12 : decode cX1_partAlone 12 = .ok (.iconst 0, 1) := by decide +kernel
theorem dX1_partAlone_13 : decode cX1_partAlone 13 = .ok (.istore 4, 2) := by decide +kernel
theorem dX1_partAlone_15 : decode cX1_partAlone 15 = .ok (.iconst 0, 1) := by decide +kernel
theorem dX1_partAlone_16 : decode cX1_partAlone 16 = .ok (.istore 5, 2) := by decide +kernel
theorem dX1_partAlone_18 : decode cX1_partAlone 18 = .ok (.iload 5, 2) := by decide +kernel
theorem dX1_partAlone_20 : decode cX1_partAlone 20 = .ok (.aload_n 0, 1) := by decide +kernel
theorem dX1_partAlone_21 : decode cX1_partAlone 21 = .ok (.getfield 7, 3) := by decide +kernel
theorem dX1_partAlone_24 : decode cX1_partAlone 24 = .ok (.if_icmp .ge 32, 3) := by decide +kernel
theorem dX1_partAlone_27 : decode cX1_partAlone 27 = .ok (.lload_n 2, 1) := by decide +kernel
theorem dX1_partAlone_28 : decode cX1_partAlone 28 = .ok (.lload_n 2, 1) := by decide +kernel
theorem dX1_partAlone_29 : decode cX1_partAlone 29 = .ok (.iload 5, 2) := by decide +kernel
theorem dX1_partAlone_31 : decode cX1_partAlone 31 = .ok (.invokestatic 75, 3) := by decide +kernel
theorem dX1_partAlone_34 : decode cX1_partAlone 34 = .ok (.invokestatic 26, 3) := by decide +kernel
theorem dX1_partAlone_37 : decode cX1_partAlone 37 = .ok (.iload_n 1, 1) := by decide +kernel
theorem dX1_partAlone_38 : decode cX1_partAlone 38 = .ok (.if_icmp .ne 12, 3) := by decide +kernel
theorem dX1_partAlone_41 : decode cX1_partAlone 41 = .ok (.iload 4, 2) := by decide +kernel
theorem dX1_partAlone_43 : decode cX1_partAlone 43 = .ok (.iconst 1, 1) := by decide +kernel
theorem dX1_partAlone_44 : decode cX1_partAlone 44 = .ok (.iload 5, 2) := by decide +kernel
theorem dX1_partAlone_46 : decode cX1_partAlone 46 = .ok (.ishl, 1) := by decide +kernel
theorem dX1_partAlone_47 : decode cX1_partAlone 47 = .ok (.ior, 1) := by decide +kernel
theorem dX1_partAlone_48 : decode cX1_partAlone 48 = .ok (.istore 4, 2) := by decide +kernel
theorem dX1_partAlone_50 : decode cX1_partAlone 50 = .ok (.iinc 5 1, 3) := by decide +kernel
theorem dX1_partAlone_53 : decode cX1_partAlone 53 = .ok (.goto (-35), 3) := by decide +kernel
theorem dX1_partAlone_56 : decode cX1_partAlone 56 = .ok (.iload 4, 2) := by decide +kernel
theorem dX1_partAlone_58 : decode cX1_partAlone 58 = .ok (.invokestatic 101, 3) := by decide +kernel
theorem dX1_partAlone_61 : decode cX1_partAlone 61 = .ok (.aload_n 0, 1) := by decide +kernel
theorem dX1_partAlone_62 : decode cX1_partAlone 62 = .ok (.iload 4, 2) := by decide +kernel
theorem dX1_partAlone_64 : decode cX1_partAlone 64 = .ok (.aload_n 0, 1) := by decide +kernel
theorem dX1_partAlone_65 : decode cX1_partAlone 65 = .ok (.getfield 7, 3) := by decide +kernel
theorem dX1_partAlone_68 : decode cX1_partAlone 68 = .ok (.invokestatic 69, 3) := by decide +kernel
theorem dX1_partAlone_71 : decode cX1_partAlone 71 = .ok (.invokevirtual 106, 3) := by decide +kernel
theorem dX1_partAlone_74 : decode cX1_partAlone 74 = .ok (.invokestatic 110, 3) := by decide +kernel
theorem dX1_partAlone_77 : decode cX1_partAlone 77 = .ok (.areturn, 1) := by decide +kernel
theorem dX1_ofBlocks_0 : decode cX1_ofBlocks 0 = .ok (.aload_n 0, 1) := by decide +kernel
theorem dX1_ofBlocks_1 : decode cX1_ofBlocks 1 = .ok (.iload_n 1, 1) := by decide +kernel
theorem dX1_ofBlocks_2 : decode cX1_ofBlocks 2 = .ok (.iload_n 2, 1) := by decide +kernel
theorem dX1_ofBlocks_3 : decode cX1_ofBlocks 3 = .ok (.invokevirtual 114, 3) := by decide +kernel
theorem dX1_ofBlocks_6 : decode cX1_ofBlocks 6 = .ok (.lstore_n 3, 1) := by decide +kernel
theorem dX1_ofBlocks_7 : decode cX1_ofBlocks 7 = .ok (.lload_n 3, 1) := by decide +kernel
theorem dX1_ofBlocks_8 : decode cX1_ofBlocks 8 = .ok (.aload_n 0, 1) := by decide +kernel
theorem dX1_ofBlocks_9 : decode cX1_ofBlocks 9 = .ok (.getfield 7, 3) := by decide +kernel
theorem dX1_ofBlocks_12 : decode cX1_ofBlocks 12 = .ok (.invokestatic 118, 3) := by decide +kernel
theorem dX1_ofBlocks_15 : decode cX1_ofBlocks 15 = .ok (.istore 5, 2) := by decide +kernel
theorem dX1_ofBlocks_17 : decode cX1_ofBlocks 17 = .ok (.iload 5, 2) := by decide +kernel
theorem dX1_ofBlocks_19 : decode cX1_ofBlocks 19 = .ok (.invokestatic 101, 3) := by decide +kernel
theorem dX1_ofBlocks_22 : decode cX1_ofBlocks 22 = .ok (.aload_n 0, 1) := by decide +kernel
theorem dX1_ofBlocks_23 : decode cX1_ofBlocks 23 = .ok (.iload 5, 2) := by decide +kernel
theorem dX1_ofBlocks_25 : decode cX1_ofBlocks 25 = .ok (.lload_n 3, 1) := by decide +kernel
theorem dX1_ofBlocks_26 : decode cX1_ofBlocks 26 = .ok (.invokevirtual 106, 3) := by decide +kernel
theorem dX1_ofBlocks_29 : decode cX1_ofBlocks 29 = .ok (.invokestatic 110, 3) := by decide +kernel
theorem dX1_ofBlocks_32 : decode cX1_ofBlocks 32 = .ok (.areturn, 1) := by decide +kernel
theorem dX1_narrowed_0 : decode cX1_narrowed 0 = .ok (.aload_n 0, 1) := by decide +kernel
theorem dX1_narrowed_1 : decode cX1_narrowed 1 = .ok (.getfield 13, 3) := by decide +kernel
theorem dX1_narrowed_4 : decode cX1_narrowed 4 = .ok (.arraylength, 1) := by decide +kernel
theorem dX1_narrowed_5 : decode cX1_narrowed 5 = .ok (.newarray .long, 2) := by decide +kernel
theorem dX1_narrowed_7 : decode cX1_narrowed 7 = .ok (.astore 4, 2) := by decide +kernel
theorem dX1_narrowed_9 : decode cX1_narrowed 9 = .ok (.iconst 0, 1) := by decide +kernel
theorem dX1_narrowed_10 : decode cX1_narrowed 10 = .ok (.istore 5, 2) := by decide +kernel
theorem dX1_narrowed_12 : decode cX1_narrowed 12 = .ok (.iload 5, 2) := by decide +kernel
theorem dX1_narrowed_14 : decode cX1_narrowed 14 = .ok (.aload_n 0, 1) := by decide +kernel
theorem dX1_narrowed_15 : decode cX1_narrowed 15 = .ok (.getfield 13, 3) := by decide +kernel
theorem dX1_narrowed_18 : decode cX1_narrowed 18 = .ok (.arraylength, 1) := by decide +kernel
theorem dX1_narrowed_19 : decode cX1_narrowed 19 = .ok (.if_icmp .ge 86, 3) := by decide +kernel
theorem dX1_narrowed_22 : decode cX1_narrowed 22 = .ok (.iconst 0, 1) := by decide +kernel
theorem dX1_narrowed_23 : decode cX1_narrowed 23 = .ok (.istore 6, 2) := by decide +kernel
theorem dX1_narrowed_25 : decode cX1_narrowed 25 = .ok (.iconst 0, 1) := by decide +kernel
theorem dX1_narrowed_26 : decode cX1_narrowed 26 = .ok (.istore 7, 2) := by decide +kernel
theorem dX1_narrowed_28 : decode cX1_narrowed 28 = .ok (.iload 7, 2) := by decide +kernel
theorem dX1_narrowed_30 : decode cX1_narrowed 30 = .ok (.aload_n 0, 1) := by decide +kernel
theorem dX1_narrowed_31 : decode cX1_narrowed 31 = .ok (.getfield 7, 3) := by decide +kernel
theorem dX1_narrowed_34 : decode cX1_narrowed 34 = .ok (.if_icmp .ge 65, 3) := by decide +kernel
theorem dX1_narrowed_37 : decode cX1_narrowed 37 = .ok (.iload_n 1, 1) := by decide +kernel
theorem dX1_narrowed_38 : decode cX1_narrowed 38 = .ok (.iload 7, 2) := by decide +kernel
theorem dX1_narrowed_40 : decode cX1_narrowed 40 = .ok (.ishr, 1) := by decide +kernel
theorem dX1_narrowed_41 : decode cX1_narrowed 41 = .ok (.iconst 1, 1) := by decide +kernel
theorem dX1_narrowed_42 : decode cX1_narrowed 42 = .ok (.iand, 1) := by decide +kernel
theorem dX1_narrowed_43 : decode cX1_narrowed 43 = .ok (.ifCond .eq 50, 3) := by decide +kernel
theorem dX1_narrowed_46 : decode cX1_narrowed 46 = .ok (.lload_n 2, 1) := by decide +kernel
theorem dX1_narrowed_47 : decode cX1_narrowed 47 = .ok (.aload_n 0, 1) := by decide +kernel
theorem dX1_narrowed_48 : decode cX1_narrowed 48 = .ok (.getfield 13, 3) := by decide +kernel
theorem dX1_narrowed_51 : decode cX1_narrowed 51 = .ok (.iload 5, 2) := by decide +kernel
theorem dX1_narrowed_53 : decode cX1_narrowed 53 = .ok (.laload, 1) := by decide +kernel
theorem dX1_narrowed_54 : decode cX1_narrowed 54 = .ok (.iload 7, 2) := by decide +kernel
theorem dX1_narrowed_56 : decode cX1_narrowed 56 = .ok (.invokestatic 75, 3) := by decide +kernel
theorem dX1_narrowed_59 : decode cX1_narrowed 59 = .ok (.invokestatic 75, 3) := by decide +kernel
theorem dX1_narrowed_62 : decode cX1_narrowed 62 = .ok (.istore 8, 2) := by decide +kernel
theorem dX1_narrowed_64 : decode cX1_narrowed 64 = .ok (.aload 4, 2) := by decide +kernel
theorem dX1_narrowed_66 : decode cX1_narrowed 66 = .ok (.iload 5, 2) := by decide +kernel
theorem dX1_narrowed_68 : decode cX1_narrowed 68 = .ok (.aload 4, 2) := by decide +kernel
theorem dX1_narrowed_70 : decode cX1_narrowed 70 = .ok (.iload 5, 2) := by decide +kernel
theorem dX1_narrowed_72 : decode cX1_narrowed 72 = .ok (.laload, 1) := by decide +kernel
theorem dX1_narrowed_73 : decode cX1_narrowed 73 = .ok (.iload 6, 2) := by decide +kernel
theorem dX1_narrowed_75 : decode cX1_narrowed 75 = .ok (.iload_n 1, 1) := by decide +kernel
theorem dX1_narrowed_76 : decode cX1_narrowed 76 = .ok (.iconst 1, 1) := by decide +kernel
theorem dX1_narrowed_77 : decode cX1_narrowed 77 = .ok (.iload 8, 2) := by decide +kernel
theorem dX1_narrowed_79 : decode cX1_narrowed 79 = .ok (.ishl, 1) := by decide +kernel
theorem dX1_narrowed_80 : decode cX1_narrowed 80 = .ok (.iconst 1, 1) := by decide +kernel
theorem dX1_narrowed_81 : decode cX1_narrowed 81 = .ok (.isub, 1) := by decide +kernel
theorem dX1_narrowed_82 : decode cX1_narrowed 82 = .ok (.iand, 1) := by decide +kernel
theorem dX1_narrowed_83 : decode cX1_narrowed 83 = .ok (.invokestatic 101, 3) := by decide +kernel
theorem dX1_narrowed_86 : decode cX1_narrowed 86 = .ok (.invokestatic 121, 3) := by decide +kernel
theorem dX1_narrowed_89 : decode cX1_narrowed 89 = .ok (.lastore, 1) := by decide +kernel
theorem dX1_narrowed_90 : decode cX1_narrowed 90 = .ok (.iinc 6 1, 3) := by decide +kernel
theorem dX1_narrowed_93 : decode cX1_narrowed 93 = .ok (.iinc 7 1, 3) := by decide +kernel
theorem dX1_narrowed_96 : decode cX1_narrowed 96 = .ok (.goto (-68), 3) := by decide +kernel
theorem dX1_narrowed_99 : decode cX1_narrowed 99 = .ok (.iinc 5 1, 3) := by decide +kernel
theorem dX1_narrowed_102 : decode cX1_narrowed 102 = .ok (.goto (-90), 3) := by decide +kernel
theorem dX1_narrowed_105 : decode cX1_narrowed 105 = .ok (.aload 4, 2) := by decide +kernel
theorem dX1_narrowed_107 : decode cX1_narrowed 107 = .ok (.areturn, 1) := by decide +kernel
theorem dX1_ledPast_0 : decode cX1_ledPast 0 = .ok (.aload_n 0, 1) := by decide +kernel
theorem dX1_ledPast_1 : decode cX1_ledPast 1 = .ok (.getfield 13, 3) := by decide +kernel
theorem dX1_ledPast_4 : decode cX1_ledPast 4 = .ok (.aload_n 0, 1) := by decide +kernel
theorem dX1_ledPast_5 : decode cX1_ledPast 5 = .ok (.getfield 13, 3) := by decide +kernel
theorem dX1_ledPast_8 : decode cX1_ledPast 8 = .ok (.arraylength, 1) := by decide +kernel
theorem dX1_ledPast_9 : decode cX1_ledPast 9 = .ok (.invokestatic 125, 3) := by decide +kernel
theorem dX1_ledPast_12 : decode cX1_ledPast 12 = .ok (.astore_n 3, 1) := by decide +kernel
theorem dX1_ledPast_13 : decode cX1_ledPast 13 = .ok (.iload_n 2, 1) := by decide +kernel
theorem dX1_ledPast_14 : decode cX1_ledPast 14 = .ok (.ifCond .eq 15, 3) := by decide +kernel
theorem dX1_ledPast_17 : decode cX1_ledPast 17 = .ok (.aload_n 3, 1) := by decide +kernel
theorem dX1_ledPast_18 : decode cX1_ledPast 18 = .ok (.iload_n 1, 1) := by decide +kernel
theorem dX1_ledPast_19 : decode cX1_ledPast 19 = .ok (.aload_n 0, 1) := by decide +kernel
theorem dX1_ledPast_20 : decode cX1_ledPast 20 = .ok (.getfield 7, 3) := by decide +kernel
theorem dX1_ledPast_23 : decode cX1_ledPast 23 = .ok (.invokestatic 131, 3) := by decide +kernel
theorem dX1_ledPast_26 : decode cX1_ledPast 26 = .ok (.goto 12, 3) := by decide +kernel
theorem dX1_ledPast_29 : decode cX1_ledPast 29 = .ok (.aload_n 3, 1) := by decide +kernel
theorem dX1_ledPast_30 : decode cX1_ledPast 30 = .ok (.iload_n 1, 1) := by decide +kernel
theorem dX1_ledPast_31 : decode cX1_ledPast 31 = .ok (.aload_n 0, 1) := by decide +kernel
theorem dX1_ledPast_32 : decode cX1_ledPast 32 = .ok (.getfield 7, 3) := by decide +kernel
theorem dX1_ledPast_35 : decode cX1_ledPast 35 = .ok (.invokestatic 135, 3) := by decide +kernel
theorem dX1_ledPast_38 : decode cX1_ledPast 38 = .ok (.aload_n 0, 1) := by decide +kernel
theorem dX1_ledPast_39 : decode cX1_ledPast 39 = .ok (.getfield 7, 3) := by decide +kernel
theorem dX1_ledPast_42 : decode cX1_ledPast 42 = .ok (.aload_n 3, 1) := by decide +kernel
theorem dX1_ledPast_43 : decode cX1_ledPast 43 = .ok (.invokestatic 110, 3) := by decide +kernel
theorem dX1_ledPast_46 : decode cX1_ledPast 46 = .ok (.areturn, 1) := by decide +kernel
theorem dX1_mirror_0 : decode cX1_mirror 0 = .ok (.aload_n 0, 1) := by decide +kernel
theorem dX1_mirror_1 : decode cX1_mirror 1 = .ok (.getfield 13, 3) := by decide +kernel
theorem dX1_mirror_4 : decode cX1_mirror 4 = .ok (.arraylength, 1) := by decide +kernel
theorem dX1_mirror_5 : decode cX1_mirror 5 = .ok (.istore_n 1, 1) := by decide +kernel
theorem dX1_mirror_6 : decode cX1_mirror 6 = .ok (.iload_n 1, 1) := by decide +kernel
theorem dX1_mirror_7 : decode cX1_mirror 7 = .ok (.newarray .long, 2) := by decide +kernel
theorem dX1_mirror_9 : decode cX1_mirror 9 = .ok (.astore_n 2, 1) := by decide +kernel
theorem dX1_mirror_10 : decode cX1_mirror 10 = .ok (.iconst 0, 1) := by decide +kernel
theorem dX1_mirror_11 : decode cX1_mirror 11 = .ok (.istore_n 3, 1) := by decide +kernel
theorem dX1_mirror_12 : decode cX1_mirror 12 = .ok (.iload_n 3, 1) := by decide +kernel
theorem dX1_mirror_13 : decode cX1_mirror 13 = .ok (.iload_n 1, 1) := by decide +kernel
theorem dX1_mirror_14 : decode cX1_mirror 14 = .ok (.if_icmp .ge 29, 3) := by decide +kernel
theorem dX1_mirror_17 : decode cX1_mirror 17 = .ok (.aload_n 2, 1) := by decide +kernel
theorem dX1_mirror_18 : decode cX1_mirror 18 = .ok (.iload_n 3, 1) := by decide +kernel
theorem dX1_mirror_19 : decode cX1_mirror 19 = .ok (.aload_n 0, 1) := by decide +kernel
theorem dX1_mirror_20 : decode cX1_mirror 20 = .ok (.getfield 13, 3) := by decide +kernel
theorem dX1_mirror_23 : decode cX1_mirror 23 = .ok (.iload_n 1, 1) := by decide +kernel
theorem dX1_mirror_24 : decode cX1_mirror 24 = .ok (.iconst 1, 1) := by decide +kernel
theorem dX1_mirror_25 : decode cX1_mirror 25 = .ok (.isub, 1) := by decide +kernel
theorem dX1_mirror_26 : decode cX1_mirror 26 = .ok (.iload_n 3, 1) := by decide +kernel
theorem dX1_mirror_27 : decode cX1_mirror 27 = .ok (.isub, 1) := by decide +kernel
theorem dX1_mirror_28 : decode cX1_mirror 28 = .ok (.laload, 1) := by decide +kernel
theorem dX1_mirror_29 : decode cX1_mirror 29 = .ok (.aload_n 0, 1) := by decide +kernel
theorem dX1_mirror_30 : decode cX1_mirror 30 = .ok (.getfield 7, 3) := by decide +kernel
theorem dX1_mirror_33 : decode cX1_mirror 33 = .ok (.invokestatic 78, 3) := by decide +kernel
theorem dX1_mirror_36 : decode cX1_mirror 36 = .ok (.lastore, 1) := by decide +kernel
theorem dX1_mirror_37 : decode cX1_mirror 37 = .ok (.iinc 3 1, 3) := by decide +kernel
theorem dX1_mirror_40 : decode cX1_mirror 40 = .ok (.goto (-28), 3) := by decide +kernel
theorem dX1_mirror_43 : decode cX1_mirror 43 = .ok (.aload_n 0, 1) := by decide +kernel
theorem dX1_mirror_44 : decode cX1_mirror 44 = .ok (.getfield 7, 3) := by decide +kernel
theorem dX1_mirror_47 : decode cX1_mirror 47 = .ok (.aload_n 2, 1) := by decide +kernel
theorem dX1_mirror_48 : decode cX1_mirror 48 = .ok (.invokestatic 110, 3) := by decide +kernel
theorem dX1_mirror_51 : decode cX1_mirror 51 = .ok (.areturn, 1) := by decide +kernel
theorem dX1_laidOver_0 : decode cX1_laidOver 0 = .ok (.aload_n 0, 1) := by decide +kernel
theorem dX1_laidOver_1 : decode cX1_laidOver 1 = .ok (.getfield 13, 3) := by decide +kernel
theorem dX1_laidOver_4 : decode cX1_laidOver 4 = .ok (.arraylength, 1) := by decide +kernel
theorem dX1_laidOver_5 : decode cX1_laidOver 5 = .ok (.newarray .long, 2) := by decide +kernel
theorem dX1_laidOver_7 : decode cX1_laidOver 7 = .ok (.astore_n 2, 1) := by decide +kernel
theorem dX1_laidOver_8 : decode cX1_laidOver 8 = .ok (.iconst 0, 1) := by decide +kernel
theorem dX1_laidOver_9 : decode cX1_laidOver 9 = .ok (.istore_n 3, 1) := by decide +kernel
theorem dX1_laidOver_10 : decode cX1_laidOver 10 = .ok (.iload_n 3, 1) := by decide +kernel
theorem dX1_laidOver_11 : decode cX1_laidOver 11 = .ok (.aload_n 0, 1) := by decide +kernel
theorem dX1_laidOver_12 : decode cX1_laidOver 12 = .ok (.getfield 13, 3) := by decide +kernel
theorem dX1_laidOver_15 : decode cX1_laidOver 15 = .ok (.arraylength, 1) := by decide +kernel
theorem dX1_laidOver_16 : decode cX1_laidOver 16 = .ok (.if_icmp .ge 95, 3) := by decide +kernel
theorem dX1_laidOver_19 : decode cX1_laidOver 19 = .ok (.iconst 0, 1) := by decide +kernel
theorem dX1_laidOver_20 : decode cX1_laidOver 20 = .ok (.istore 4, 2) := by decide +kernel
theorem dX1_laidOver_22 : decode cX1_laidOver 22 = .ok (.iload 4, 2) := by decide +kernel
theorem dX1_laidOver_24 : decode cX1_laidOver 24 = .ok (.aload_n 0, 1) := by decide +kernel
theorem dX1_laidOver_25 : decode cX1_laidOver 25 = .ok (.getfield 7, 3) := by decide +kernel
theorem dX1_laidOver_28 : decode cX1_laidOver 28 = .ok (.if_icmp .ge 77, 3) := by decide +kernel
theorem dX1_laidOver_31 : decode cX1_laidOver 31 = .ok (.iconst 0, 1) := by decide +kernel
theorem dX1_laidOver_32 : decode cX1_laidOver 32 = .ok (.istore 5, 2) := by decide +kernel
theorem dX1_laidOver_34 : decode cX1_laidOver 34 = .ok (.iload 5, 2) := by decide +kernel
theorem dX1_laidOver_36 : decode cX1_laidOver 36 = .ok (.aload_n 1, 1) := by decide +kernel
theorem dX1_laidOver_37 : decode cX1_laidOver 37 = .ok (.getfield 7, 3) := by decide +kernel
theorem dX1_laidOver_40 : decode cX1_laidOver 40 = .ok (.if_icmp .ge 59, 3) := by decide +kernel
theorem dX1_laidOver_43 : decode cX1_laidOver 43 = .ok (.aload_n 0, 1) := by decide +kernel
theorem dX1_laidOver_44 : decode cX1_laidOver 44 = .ok (.getfield 13, 3) := by decide +kernel
theorem dX1_laidOver_47 : decode cX1_laidOver 47 = .ok (.iload_n 3, 1) := by decide +kernel
theorem dX1_laidOver_48 : decode cX1_laidOver 48 = .ok (.laload, 1) := by decide +kernel
theorem dX1_laidOver_49 : decode cX1_laidOver 49 = .ok (.iload 4, 2) := by decide +kernel
theorem dX1_laidOver_51 : decode cX1_laidOver 51 = .ok (.invokestatic 75, 3) := by decide +kernel
theorem dX1_laidOver_54 : decode cX1_laidOver 54 = .ok (.aload_n 1, 1) := by decide +kernel
theorem dX1_laidOver_55 : decode cX1_laidOver 55 = .ok (.getfield 7, 3) := by decide +kernel
theorem dX1_laidOver_58 : decode cX1_laidOver 58 = .ok (.imul, 1) := by decide +kernel
theorem dX1_laidOver_59 : decode cX1_laidOver 59 = .ok (.aload_n 1, 1) := by decide +kernel
theorem dX1_laidOver_60 : decode cX1_laidOver 60 = .ok (.iload_n 3, 1) := by decide +kernel
theorem dX1_laidOver_61 : decode cX1_laidOver 61 = .ok (.invokevirtual 72, 3) := by decide +kernel
theorem dX1_laidOver_64 : decode cX1_laidOver 64 = .ok (.iload 5, 2) := by decide +kernel
theorem dX1_laidOver_66 : decode cX1_laidOver 66 = .ok (.invokestatic 75, 3) := by decide +kernel
theorem dX1_laidOver_69 : decode cX1_laidOver 69 = .ok (.iadd, 1) := by decide +kernel
theorem dX1_laidOver_70 : decode cX1_laidOver 70 = .ok (.istore 6, 2) := by decide +kernel
theorem dX1_laidOver_72 : decode cX1_laidOver 72 = .ok (.aload_n 2, 1) := by decide +kernel
theorem dX1_laidOver_73 : decode cX1_laidOver 73 = .ok (.iload_n 3, 1) := by decide +kernel
theorem dX1_laidOver_74 : decode cX1_laidOver 74 = .ok (.aload_n 2, 1) := by decide +kernel
theorem dX1_laidOver_75 : decode cX1_laidOver 75 = .ok (.iload_n 3, 1) := by decide +kernel
theorem dX1_laidOver_76 : decode cX1_laidOver 76 = .ok (.laload, 1) := by decide +kernel
theorem dX1_laidOver_77 : decode cX1_laidOver 77 = .ok (.iload 4, 2) := by decide +kernel
theorem dX1_laidOver_79 : decode cX1_laidOver 79 = .ok (.aload_n 1, 1) := by decide +kernel
theorem dX1_laidOver_80 : decode cX1_laidOver 80 = .ok (.getfield 7, 3) := by decide +kernel
theorem dX1_laidOver_83 : decode cX1_laidOver 83 = .ok (.imul, 1) := by decide +kernel
theorem dX1_laidOver_84 : decode cX1_laidOver 84 = .ok (.iload 5, 2) := by decide +kernel
theorem dX1_laidOver_86 : decode cX1_laidOver 86 = .ok (.iadd, 1) := by decide +kernel
theorem dX1_laidOver_87 : decode cX1_laidOver 87 = .ok (.iload 6, 2) := by decide +kernel
theorem dX1_laidOver_89 : decode cX1_laidOver 89 = .ok (.invokestatic 121, 3) := by decide +kernel
theorem dX1_laidOver_92 : decode cX1_laidOver 92 = .ok (.lastore, 1) := by decide +kernel
theorem dX1_laidOver_93 : decode cX1_laidOver 93 = .ok (.iinc 5 1, 3) := by decide +kernel
theorem dX1_laidOver_96 : decode cX1_laidOver 96 = .ok (.goto (-62), 3) := by decide +kernel
theorem dX1_laidOver_99 : decode cX1_laidOver 99 = .ok (.iinc 4 1, 3) := by decide +kernel
theorem dX1_laidOver_102 : decode cX1_laidOver 102 = .ok (.goto (-80), 3) := by decide +kernel
theorem dX1_laidOver_105 : decode cX1_laidOver 105 = .ok (.iinc 3 1, 3) := by decide +kernel
theorem dX1_laidOver_108 : decode cX1_laidOver 108 = .ok (.goto (-98), 3) := by decide +kernel
theorem dX1_laidOver_111 : decode cX1_laidOver 111 = .ok (.aload_n 0, 1) := by decide +kernel
theorem dX1_laidOver_112 : decode cX1_laidOver 112 = .ok (.getfield 7, 3) := by decide +kernel
theorem dX1_laidOver_115 : decode cX1_laidOver 115 = .ok (.aload_n 1, 1) := by decide +kernel
theorem dX1_laidOver_116 : decode cX1_laidOver 116 = .ok (.getfield 7, 3) := by decide +kernel
theorem dX1_laidOver_119 : decode cX1_laidOver 119 = .ok (.imul, 1) := by decide +kernel
theorem dX1_laidOver_120 : decode cX1_laidOver 120 = .ok (.aload_n 2, 1) := by decide +kernel
theorem dX1_laidOver_121 : decode cX1_laidOver 121 = .ok (.invokestatic 110, 3) := by decide +kernel
theorem dX1_laidOver_124 : decode cX1_laidOver 124 = .ok (.areturn, 1) := by decide +kernel
theorem dX2_init_0 : decode cX2_init 0 = .ok (.aload_n 0, 1) := by decide +kernel
theorem dX2_init_1 : decode cX2_init 1 = .ok (.invokespecial 3, 3) := by decide +kernel
theorem dX2_init_4 : decode cX2_init 4 = .ok (.aload_n 0, 1) := by decide +kernel
theorem dX2_init_5 : decode cX2_init 5 = .ok (.bipush 66, 2) := by decide +kernel
theorem dX2_init_7 : decode cX2_init 7 = .ok (.newarray .long, 2) := by decide +kernel
theorem dX2_init_9 : decode cX2_init 9 = .ok (.putfield 11, 3) := by decide +kernel
theorem dX2_init_12 : decode cX2_init 12 = .ok (.aload_n 0, 1) := by decide +kernel
theorem dX2_init_13 : decode cX2_init 13 = .ok (.sipush 144, 3) := by decide +kernel
theorem dX2_init_16 : decode cX2_init 16 = .ok (.newarray .long, 2) := by decide +kernel
theorem dX2_init_18 : decode cX2_init 18 = .ok (.putfield 15, 3) := by decide +kernel
theorem dX2_init_21 : decode cX2_init 21 = .ok (.return_, 1) := by decide +kernel
theorem dX2_orders_0 : decode cX2_orders 0 = .ok (.aload_n 1, 1) := by decide +kernel
theorem dX2_orders_1 : decode cX2_orders 1 = .ok (.getfield 18, 3) := by decide +kernel
theorem dX2_orders_4 : decode cX2_orders 4 = .ok (.istore_n 2, 1) := by decide +kernel
theorem dX2_orders_5 : decode cX2_orders 5 = .ok (.aload_n 0, 1) := by decide +kernel
theorem dX2_orders_6 : decode cX2_orders 6 = .ok (.iconst 0, 1) := by decide +kernel
theorem dX2_orders_7 : decode cX2_orders 7 = .ok (.putfield 24, 3) := by decide +kernel
theorem dX2_orders_10 : decode cX2_orders 10 = .ok (.aload_n 0, 1) := by decide +kernel
theorem dX2_orders_11 : decode cX2_orders 11 = .ok (.getfield 15, 3) := by decide +kernel
theorem dX2_orders_14 : decode cX2_orders 14 = .ok (.lconst 0, 1) := by decide +kernel
theorem dX2_orders_15 : decode cX2_orders 15 = .ok (.invokestatic 27, 3) := by decide +kernel
theorem dX2_orders_18 : decode cX2_orders 18 = .ok (.iconst 0, 1) := by decide +kernel
theorem dX2_orders_19 : decode cX2_orders 19 = .ok (.istore_n 3, 1) := by decide +kernel
theorem dX2_orders_20 : decode cX2_orders 20 = .ok (.iload_n 3, 1) := by decide +kernel
theorem dX2_orders_21 : decode cX2_orders 21 = .ok (.aload_n 1, 1) := by decide +kernel
theorem dX2_orders_22 : decode cX2_orders 22 = .ok (.getfield 33, 3) := by decide +kernel
theorem dX2_orders_25 : decode cX2_orders 25 = .ok (.arraylength, 1) := by decide +kernel
theorem dX2_orders_26 : decode cX2_orders 26 = .ok (.if_icmp .ge 20, 3) := by decide +kernel
theorem dX2_orders_29 : decode cX2_orders 29 = .ok (.aload_n 0, 1) := by decide +kernel
theorem dX2_orders_30 : decode cX2_orders 30 = .ok (.aload_n 1, 1) := by decide +kernel
theorem dX2_orders_31 : decode cX2_orders 31 = .ok (.getfield 33, 3) := by decide +kernel
theorem dX2_orders_34 : decode cX2_orders 34 = .ok (.iload_n 3, 1) := by decide +kernel
theorem dX2_orders_35 : decode cX2_orders 35 = .ok (.laload, 1) := by decide +kernel
theorem dX2_orders_36 : decode cX2_orders 36 = .ok (.iload_n 2, 1) := by decide +kernel
theorem dX2_orders_37 : decode cX2_orders 37 = .ok (.invokevirtual 36, 3) := by decide +kernel
theorem dX2_orders_40 : decode cX2_orders 40 = .ok (.iinc 3 1, 3) := by decide +kernel
theorem dX2_orders_43 : decode cX2_orders 43 = .ok (.goto (-23), 3) := by decide +kernel
theorem dX2_orders_46 : decode cX2_orders 46 = .ok (.iconst 0, 1) := by decide +kernel
theorem dX2_orders_47 : decode cX2_orders 47 = .ok (.istore_n 3, 1) := by decide +kernel
theorem dX2_orders_48 : decode cX2_orders 48 = .ok (.iload_n 3, 1) := by decide +kernel
theorem dX2_orders_49 : decode cX2_orders 49 = .ok (.aload_n 0, 1) := by decide +kernel
theorem dX2_orders_50 : decode cX2_orders 50 = .ok (.getfield 24, 3) := by decide +kernel
theorem dX2_orders_53 : decode cX2_orders 53 = .ok (.if_icmp .ge 74, 3) := by decide +kernel
theorem dX2_orders_56 : decode cX2_orders 56 = .ok (.iload_n 3, 1) := by decide +kernel
theorem dX2_orders_57 : decode cX2_orders 57 = .ok (.bipush 66, 2) := by decide +kernel
theorem dX2_orders_59 : decode cX2_orders 59 = .ok (.if_icmp .ge 68, 3) := by decide +kernel
theorem dX2_orders_62 : decode cX2_orders 62 = .ok (.iconst 0, 1) := by decide +kernel
theorem dX2_orders_63 : decode cX2_orders 63 = .ok (.istore 4, 2) := by decide +kernel
theorem dX2_orders_65 : decode cX2_orders 65 = .ok (.iload 4, 2) := by decide +kernel
theorem dX2_orders_67 : decode cX2_orders 67 = .ok (.iload_n 3, 1) := by decide +kernel
theorem dX2_orders_68 : decode cX2_orders 68 = .ok (.if_icmp .gt 53, 3) := by decide +kernel
theorem dX2_orders_71 : decode cX2_orders 71 = .ok (.aload_n 0, 1) := by decide +kernel
theorem dX2_orders_72 : decode cX2_orders 72 = .ok (.aload_n 0, 1) := by decide +kernel
theorem dX2_orders_73 : decode cX2_orders 73 = .ok (.getfield 11, 3) := by decide +kernel
theorem dX2_orders_76 : decode cX2_orders 76 = .ok (.iload_n 3, 1) := by decide +kernel
theorem dX2_orders_77 : decode cX2_orders 77 = .ok (.laload, 1) := by decide +kernel
theorem dX2_orders_78 : decode cX2_orders 78 = .ok (.aload_n 0, 1) := by decide +kernel
theorem dX2_orders_79 : decode cX2_orders 79 = .ok (.getfield 11, 3) := by decide +kernel
theorem dX2_orders_82 : decode cX2_orders 82 = .ok (.iload 4, 2) := by decide +kernel
theorem dX2_orders_84 : decode cX2_orders 84 = .ok (.laload, 1) := by decide +kernel
theorem dX2_orders_85 : decode cX2_orders 85 = .ok (.iload_n 2, 1) := by decide +kernel
theorem dX2_orders_86 : decode cX2_orders 86 = .ok (.invokestatic 40, 3) := by decide +kernel
theorem dX2_orders_89 : decode cX2_orders 89 = .ok (.iload_n 2, 1) := by decide +kernel
theorem dX2_orders_90 : decode cX2_orders 90 = .ok (.invokevirtual 36, 3) := by decide +kernel
theorem dX2_orders_93 : decode cX2_orders 93 = .ok (.aload_n 0, 1) := by decide +kernel
theorem dX2_orders_94 : decode cX2_orders 94 = .ok (.aload_n 0, 1) := by decide +kernel
theorem dX2_orders_95 : decode cX2_orders 95 = .ok (.getfield 11, 3) := by decide +kernel
theorem dX2_orders_98 : decode cX2_orders 98 = .ok (.iload 4, 2) := by decide +kernel
theorem dX2_orders_100 : decode cX2_orders 100 = .ok (.laload, 1) := by decide +kernel
theorem dX2_orders_101 : decode cX2_orders 101 = .ok (.aload_n 0, 1) := by decide +kernel
theorem dX2_orders_102 : decode cX2_orders 102 = .ok (.getfield 11, 3) := by decide +kernel
theorem dX2_orders_105 : decode cX2_orders 105 = .ok (.iload_n 3, 1) := by decide +kernel
theorem dX2_orders_106 : decode cX2_orders 106 = .ok (.laload, 1) := by decide +kernel
theorem dX2_orders_107 : decode cX2_orders 107 = .ok (.iload_n 2, 1) := by decide +kernel
theorem dX2_orders_108 : decode cX2_orders 108 = .ok (.invokestatic 40, 3) := by decide +kernel
theorem dX2_orders_111 : decode cX2_orders 111 = .ok (.iload_n 2, 1) := by decide +kernel
theorem dX2_orders_112 : decode cX2_orders 112 = .ok (.invokevirtual 36, 3) := by decide +kernel
theorem dX2_orders_115 : decode cX2_orders 115 = .ok (.iinc 4 1, 3) := by decide +kernel
theorem dX2_orders_118 : decode cX2_orders 118 = .ok (.goto (-53), 3) := by decide +kernel
theorem dX2_orders_121 : decode cX2_orders 121 = .ok (.iinc 3 1, 3) := by decide +kernel
theorem dX2_orders_124 : decode cX2_orders 124 = .ok (.goto (-76), 3) := by decide +kernel
theorem dX2_orders_127 : decode cX2_orders 127 = .ok (.aload_n 0, 1) := by decide +kernel
theorem dX2_orders_128 : decode cX2_orders 128 = .ok (.iload_n 2, 1) := by decide +kernel
theorem dX2_orders_129 : decode cX2_orders 129 = .ok (.invokevirtual 46, 3) := by decide +kernel
theorem dX2_orders_132 : decode cX2_orders 132 = .ok (.ireturn, 1) := by decide +kernel
theorem dX2_sift_0 : decode cX2_sift 0 = .ok (.lload_n 1, 1) := by decide +kernel
theorem dX2_sift_1 : decode cX2_sift 1 = .ok (.lstore 4, 2) := by decide +kernel
theorem dX2_sift_3 : decode cX2_sift 3 = .ok (.iconst 0, 1) := by decide +kernel
theorem dX2_sift_4 : decode cX2_sift 4 = .ok (.istore 6, 2) := by decide +kernel
theorem dX2_sift_6 : decode cX2_sift 6 = .ok (.iload 6, 2) := by decide +kernel
theorem dX2_sift_8 : decode cX2_sift 8 = .ok (.iload_n 3, 1) := by decide +kernel
theorem dX2_sift_9 : decode cX2_sift 9 = .ok (.if_icmp .ge 135, 3) := by decide +kernel
theorem dX2_sift_12 : decode cX2_sift 12 = .ok (.lload 4, 2) := by decide +kernel
theorem dX2_sift_14 : decode cX2_sift 14 = .ok (.iload 6, 2) := by decide +kernel
theorem dX2_sift_16 : decode cX2_sift 16 = .ok (.invokestatic 50, 3) := by decide +kernel
theorem dX2_sift_19 : decode cX2_sift 19 = .ok (.istore 7, 2) := by decide +kernel
theorem dX2_sift_21 : decode cX2_sift 21 = .ok (.iload 7, 2) := by decide +kernel
theorem dX2_sift_23 : decode cX2_sift 23 = .ok (.iload 6, 2) := by decide +kernel
theorem dX2_sift_25 : decode cX2_sift 25 = .ok (.if_icmp .ne 6, 3) := by decide +kernel
theorem dX2_sift_28 : decode cX2_sift 28 = .ok (.goto 110, 3) := by decide +kernel
theorem dX2_sift_31 : decode cX2_sift 31 = .ok (.iload 6, 2) := by decide +kernel
theorem dX2_sift_33 : decode cX2_sift 33 = .ok (.bipush 12, 2) := by decide +kernel
theorem dX2_sift_35 : decode cX2_sift 35 = .ok (.imul, 1) := by decide +kernel
theorem dX2_sift_36 : decode cX2_sift 36 = .ok (.iload 7, 2) := by decide +kernel
theorem dX2_sift_38 : decode cX2_sift 38 = .ok (.iadd, 1) := by decide +kernel
theorem dX2_sift_39 : decode cX2_sift 39 = .ok (.istore 8, 2) := by decide +kernel
theorem dX2_sift_41 : decode cX2_sift 41 = .ok (.iload 8, 2) := by decide +kernel
theorem dX2_sift_43 : decode cX2_sift 43 = .ok (.aload_n 0, 1) := by decide +kernel
theorem dX2_sift_44 : decode cX2_sift 44 = .ok (.getfield 15, 3) := by decide +kernel
theorem dX2_sift_47 : decode cX2_sift 47 = .ok (.arraylength, 1) := by decide +kernel
theorem dX2_sift_48 : decode cX2_sift 48 = .ok (.if_icmp .ge 27, 3) := by decide +kernel
theorem dX2_sift_51 : decode cX2_sift 51 = .ok (.aload_n 0, 1) := by decide +kernel
theorem dX2_sift_52 : decode cX2_sift 52 = .ok (.getfield 24, 3) := by decide +kernel
theorem dX2_sift_55 : decode cX2_sift 55 = .ok (.aload_n 0, 1) := by decide +kernel
theorem dX2_sift_56 : decode cX2_sift 56 = .ok (.getfield 11, 3) := by decide +kernel
theorem dX2_sift_59 : decode cX2_sift 59 = .ok (.arraylength, 1) := by decide +kernel
theorem dX2_sift_60 : decode cX2_sift 60 = .ok (.if_icmp .lt 16, 3) := by decide +kernel
theorem dX2_sift_63 : decode cX2_sift 63 = .ok (.aload_n 0, 1) := by decide +kernel
theorem dX2_sift_64 : decode cX2_sift 64 = .ok (.getfield 15, 3) := by decide +kernel
theorem dX2_sift_67 : decode cX2_sift 67 = .ok (.iload 8, 2) := by decide +kernel
theorem dX2_sift_69 : decode cX2_sift 69 = .ok (.laload, 1) := by decide +kernel
theorem dX2_sift_70 : decode cX2_sift 70 = .ok (.lconst 0, 1) := by decide +kernel
theorem dX2_sift_71 : decode cX2_sift 71 = .ok (.lcmp, 1) := by decide +kernel
theorem dX2_sift_72 : decode cX2_sift 72 = .ok (.ifCond .ne 4, 3) := by decide +kernel
theorem dX2_sift_75 : decode cX2_sift 75 = .ok (.return_, 1) := by decide +kernel
theorem dX2_sift_76 : decode cX2_sift 76 = .ok (.aload_n 0, 1) := by decide +kernel
theorem dX2_sift_77 : decode cX2_sift 77 = .ok (.getfield 15, 3) := by decide +kernel
theorem dX2_sift_80 : decode cX2_sift 80 = .ok (.iload 8, 2) := by decide +kernel
theorem dX2_sift_82 : decode cX2_sift 82 = .ok (.laload, 1) := by decide +kernel
theorem dX2_sift_83 : decode cX2_sift 83 = .ok (.lconst 0, 1) := by decide +kernel
theorem dX2_sift_84 : decode cX2_sift 84 = .ok (.lcmp, 1) := by decide +kernel
theorem dX2_sift_85 : decode cX2_sift 85 = .ok (.ifCond .ne 38, 3) := by decide +kernel
theorem dX2_sift_88 : decode cX2_sift 88 = .ok (.aload_n 0, 1) := by decide +kernel
theorem dX2_sift_89 : decode cX2_sift 89 = .ok (.getfield 15, 3) := by decide +kernel
theorem dX2_sift_92 : decode cX2_sift 92 = .ok (.iload 8, 2) := by decide +kernel
theorem dX2_sift_94 : decode cX2_sift 94 = .ok (.lload 4, 2) := by decide +kernel
theorem dX2_sift_96 : decode cX2_sift 96 = .ok (.iload_n 3, 1) := by decide +kernel
theorem dX2_sift_97 : decode cX2_sift 97 = .ok (.invokestatic 54, 3) := by decide +kernel
theorem dX2_sift_100 : decode cX2_sift 100 = .ok (.lastore, 1) := by decide +kernel
theorem dX2_sift_101 : decode cX2_sift 101 = .ok (.aload_n 0, 1) := by decide +kernel
theorem dX2_sift_102 : decode cX2_sift 102 = .ok (.getfield 11, 3) := by decide +kernel
theorem dX2_sift_105 : decode cX2_sift 105 = .ok (.aload_n 0, 1) := by decide +kernel
theorem dX2_sift_106 : decode cX2_sift 106 = .ok (.getfield 24, 3) := by decide +kernel
theorem dX2_sift_109 : decode cX2_sift 109 = .ok (.lload 4, 2) := by decide +kernel
theorem dX2_sift_111 : decode cX2_sift 111 = .ok (.lastore, 1) := by decide +kernel
theorem dX2_sift_112 : decode cX2_sift 112 = .ok (.aload_n 0, 1) := by decide +kernel
theorem dX2_sift_113 : decode cX2_sift 113 = .ok (.dup, 1) := by decide +kernel
theorem dX2_sift_114 : decode cX2_sift 114 = .ok (.getfield 24, 3) := by decide +kernel
theorem dX2_sift_117 : decode cX2_sift 117 = .ok (.iconst 1, 1) := by decide +kernel
theorem dX2_sift_118 : decode cX2_sift 118 = .ok (.iadd, 1) := by decide +kernel
theorem dX2_sift_119 : decode cX2_sift 119 = .ok (.putfield 24, 3) := by decide +kernel
theorem dX2_sift_122 : decode cX2_sift 122 = .ok (.return_, 1) := by decide +kernel
theorem dX2_sift_123 : decode cX2_sift 123 = .ok (.lload 4, 2) := by decide +kernel
theorem dX2_sift_125 : decode cX2_sift 125 = .ok (.aload_n 0, 1) := by decide +kernel
theorem dX2_sift_126 : decode cX2_sift 126 = .ok (.getfield 15, 3) := by decide +kernel
theorem dX2_sift_129 : decode cX2_sift 129 = .ok (.iload 8, 2) := by decide +kernel
theorem dX2_sift_131 : decode cX2_sift 131 = .ok (.laload, 1) := by decide +kernel
theorem dX2_sift_132 : decode cX2_sift 132 = .ok (.iload_n 3, 1) := by decide +kernel
theorem dX2_sift_133 : decode cX2_sift 133 = .ok (.invokestatic 40, 3) := by decide +kernel
theorem dX2_sift_136 : decode cX2_sift 136 = .ok (.lstore 4, 2) := by decide +kernel
theorem dX2_sift_138 : decode cX2_sift 138 = .ok (.iinc 6 1, 3) := by decide +kernel
theorem dX2_sift_141 : decode cX2_sift 141 = .ok (.goto (-135), 3) := by decide +kernel
theorem dX2_sift_144 : decode cX2_sift 144 = .ok (.return_, 1) := by decide +kernel
theorem dX2_product_0 : decode cX2_product 0 = .ok (.iconst 1, 1) := by decide +kernel
theorem dX2_product_1 : decode cX2_product 1 = .ok (.istore_n 2, 1) := by decide +kernel
theorem dX2_product_2 : decode cX2_product 2 = .ok (.iconst 0, 1) := by decide +kernel
theorem dX2_product_3 : decode cX2_product 3 = .ok (.istore_n 3, 1) := by decide +kernel
theorem dX2_product_4 : decode cX2_product 4 = .ok (.iload_n 3, 1) := by decide +kernel
theorem dX2_product_5 : decode cX2_product 5 = .ok (.iload_n 1, 1) := by decide +kernel
theorem dX2_product_6 : decode cX2_product 6 = .ok (.if_icmp .ge 54, 3) := by decide +kernel
theorem dX2_product_9 : decode cX2_product 9 = .ok (.iconst 1, 1) := by decide +kernel
theorem dX2_product_10 : decode cX2_product 10 = .ok (.istore 4, 2) := by decide +kernel
theorem dX2_product_12 : decode cX2_product 12 = .ok (.iload_n 3, 1) := by decide +kernel
theorem dX2_product_13 : decode cX2_product 13 = .ok (.iconst 1, 1) := by decide +kernel
theorem dX2_product_14 : decode cX2_product 14 = .ok (.iadd, 1) := by decide +kernel
theorem dX2_product_15 : decode cX2_product 15 = .ok (.istore 5, 2) := by decide +kernel
theorem dX2_product_17 : decode cX2_product 17 = .ok (.iload 5, 2) := by decide +kernel
theorem dX2_product_19 : decode cX2_product 19 = .ok (.iload_n 1, 1) := by decide +kernel
theorem dX2_product_20 : decode cX2_product 20 = .ok (.if_icmp .ge 29, 3) := by decide +kernel
theorem dX2_product_23 : decode cX2_product 23 = .ok (.aload_n 0, 1) := by decide +kernel
theorem dX2_product_24 : decode cX2_product 24 = .ok (.getfield 15, 3) := by decide +kernel
theorem dX2_product_27 : decode cX2_product 27 = .ok (.iload_n 3, 1) := by decide +kernel
theorem dX2_product_28 : decode cX2_product 28 = .ok (.bipush 12, 2) := by decide +kernel
theorem dX2_product_30 : decode cX2_product 30 = .ok (.imul, 1) := by decide +kernel
theorem dX2_product_31 : decode cX2_product 31 = .ok (.iload 5, 2) := by decide +kernel
theorem dX2_product_33 : decode cX2_product 33 = .ok (.iadd, 1) := by decide +kernel
theorem dX2_product_34 : decode cX2_product 34 = .ok (.laload, 1) := by decide +kernel
theorem dX2_product_35 : decode cX2_product 35 = .ok (.lconst 0, 1) := by decide +kernel
theorem dX2_product_36 : decode cX2_product 36 = .ok (.lcmp, 1) := by decide +kernel
theorem dX2_product_37 : decode cX2_product 37 = .ok (.ifCond .eq 6, 3) := by decide +kernel
theorem dX2_product_40 : decode cX2_product 40 = .ok (.iinc 4 1, 3) := by decide +kernel
theorem dX2_product_43 : decode cX2_product 43 = .ok (.iinc 5 1, 3) := by decide +kernel
theorem dX2_product_46 : decode cX2_product 46 = .ok (.goto (-29), 3) := by decide +kernel
theorem dX2_product_49 : decode cX2_product 49 = .ok (.iload_n 2, 1) := by decide +kernel
theorem dX2_product_50 : decode cX2_product 50 = .ok (.iload 4, 2) := by decide +kernel
theorem dX2_product_52 : decode cX2_product 52 = .ok (.imul, 1) := by decide +kernel
theorem dX2_product_53 : decode cX2_product 53 = .ok (.istore_n 2, 1) := by decide +kernel
theorem dX2_product_54 : decode cX2_product 54 = .ok (.iinc 3 1, 3) := by decide +kernel
theorem dX2_product_57 : decode cX2_product 57 = .ok (.goto (-53), 3) := by decide +kernel
theorem dX2_product_60 : decode cX2_product 60 = .ok (.iload_n 2, 1) := by decide +kernel
theorem dX2_product_61 : decode cX2_product 61 = .ok (.ireturn, 1) := by decide +kernel
theorem dX3_init_0 : decode cX3_init 0 = .ok (.aload_n 0, 1) := by decide +kernel
theorem dX3_init_1 : decode cX3_init 1 = .ok (.invokespecial 3, 3) := by decide +kernel
theorem dX3_init_4 : decode cX3_init 4 = .ok (.aload_n 0, 1) := by decide +kernel
theorem dX3_init_5 : decode cX3_init 5 = .ok (.bipush 8, 2) := by decide +kernel
theorem dX3_init_7 : decode cX3_init 7 = .ok (.newarray .long, 2) := by decide +kernel
theorem dX3_init_9 : decode cX3_init 9 = .ok (.putfield 9, 3) := by decide +kernel
theorem dX3_init_12 : decode cX3_init 12 = .ok (.return_, 1) := by decide +kernel
theorem dX3_find_0 : decode cX3_find 0 = .ok (.aload_n 1, 1) := by decide +kernel
theorem dX3_find_1 : decode cX3_find 1 = .ok (.arraylength, 1) := by decide +kernel
theorem dX3_find_2 : decode cX3_find 2 = .ok (.iconst 1, 1) := by decide +kernel
theorem dX3_find_3 : decode cX3_find 3 = .ok (.if_icmp .lt 13, 3) := by decide +kernel
theorem dX3_find_6 : decode cX3_find 6 = .ok (.aload_n 1, 1) := by decide +kernel
theorem dX3_find_7 : decode cX3_find 7 = .ok (.arraylength, 1) := by decide +kernel
theorem dX3_find_8 : decode cX3_find 8 = .ok (.aload_n 0, 1) := by decide +kernel
theorem dX3_find_9 : decode cX3_find 9 = .ok (.getfield 9, 3) := by decide +kernel
theorem dX3_find_12 : decode cX3_find 12 = .ok (.arraylength, 1) := by decide +kernel
theorem dX3_find_13 : decode cX3_find 13 = .ok (.if_icmp .le 4, 3) := by decide +kernel
theorem dX3_find_16 : decode cX3_find 16 = .ok (.return_, 1) := by decide +kernel
theorem dX3_find_17 : decode cX3_find 17 = .ok (.iload_n 2, 1) := by decide +kernel
theorem dX3_find_18 : decode cX3_find 18 = .ok (.invokestatic 15, 3) := by decide +kernel
theorem dX3_find_21 : decode cX3_find 21 = .ok (.lstore_n 3, 1) := by decide +kernel
theorem dX3_find_22 : decode cX3_find 22 = .ok (.lconst 0, 1) := by decide +kernel
theorem dX3_find_23 : decode cX3_find 23 = .ok (.lstore 5, 2) := by decide +kernel
theorem dX3_find_25 : decode cX3_find 25 = .ok (.iconst 0, 1) := by decide +kernel
theorem dX3_find_26 : decode cX3_find 26 = .ok (.istore 7, 2) := by decide +kernel
theorem dX3_find_28 : decode cX3_find 28 = .ok (.iload 7, 2) := by decide +kernel
theorem dX3_find_30 : decode cX3_find 30 = .ok (.iload_n 2, 1) := by decide +kernel
theorem dX3_find_31 : decode cX3_find 31 = .ok (.if_icmp .ge 88, 3) := by decide +kernel
theorem dX3_find_34 : decode cX3_find 34 = .ok (.lload_n 3, 1) := by decide +kernel
theorem dX3_find_35 : decode cX3_find 35 = .ok (.iload 7, 2) := by decide +kernel
theorem dX3_find_37 : decode cX3_find 37 = .ok (.invokestatic 21, 3) := by decide +kernel
theorem dX3_find_40 : decode cX3_find 40 = .ok (.iload 7, 2) := by decide +kernel
theorem dX3_find_42 : decode cX3_find 42 = .ok (.if_icmp .ne 71, 3) := by decide +kernel
theorem dX3_find_45 : decode cX3_find 45 = .ok (.aload_n 0, 1) := by decide +kernel
theorem dX3_find_46 : decode cX3_find 46 = .ok (.iload 7, 2) := by decide +kernel
theorem dX3_find_48 : decode cX3_find 48 = .ok (.aload_n 1, 1) := by decide +kernel
theorem dX3_find_49 : decode cX3_find 49 = .ok (.iload_n 2, 1) := by decide +kernel
theorem dX3_find_50 : decode cX3_find 50 = .ok (.invokevirtual 25, 3) := by decide +kernel
theorem dX3_find_53 : decode cX3_find 53 = .ok (.ifCond .ne 6, 3) := by decide +kernel
theorem dX3_find_56 : decode cX3_find 56 = .ok (.goto 57, 3) := by decide +kernel
theorem dX3_find_59 : decode cX3_find 59 = .ok (.iload 7, 2) := by decide +kernel
theorem dX3_find_61 : decode cX3_find 61 = .ok (.ifCond .ne 7, 3) := by decide +kernel
theorem dX3_find_64 : decode cX3_find 64 = .ok (.iconst (-1), 1) := by decide +kernel
theorem dX3_find_65 : decode cX3_find 65 = .ok (.goto 9, 3) := by decide +kernel
theorem dX3_find_68 : decode cX3_find 68 = .ok (.aload_n 0, 1) := by decide +kernel
theorem dX3_find_69 : decode cX3_find 69 = .ok (.aload_n 1, 1) := by decide +kernel
theorem dX3_find_70 : decode cX3_find 70 = .ok (.iload_n 2, 1) := by decide +kernel
theorem dX3_find_71 : decode cX3_find 71 = .ok (.invokevirtual 29, 3) := by decide +kernel
theorem dX3_find_74 : decode cX3_find 74 = .ok (.istore 8, 2) := by decide +kernel
theorem dX3_find_76 : decode cX3_find 76 = .ok (.iload 8, 2) := by decide +kernel
theorem dX3_find_78 : decode cX3_find 78 = .ok (.ifCond .ge 18, 3) := by decide +kernel
theorem dX3_find_81 : decode cX3_find 81 = .ok (.aload_n 0, 1) := by decide +kernel
theorem dX3_find_82 : decode cX3_find 82 = .ok (.aload_n 1, 1) := by decide +kernel
theorem dX3_find_83 : decode cX3_find 83 = .ok (.iload_n 2, 1) := by decide +kernel
theorem dX3_find_84 : decode cX3_find 84 = .ok (.invokevirtual 33, 3) := by decide +kernel
theorem dX3_find_87 : decode cX3_find 87 = .ok (.aload_n 0, 1) := by decide +kernel
theorem dX3_find_88 : decode cX3_find 88 = .ok (.getfield 37, 3) := by decide +kernel
theorem dX3_find_91 : decode cX3_find 91 = .ok (.lstore 5, 2) := by decide +kernel
theorem dX3_find_93 : decode cX3_find 93 = .ok (.goto 20, 3) := by decide +kernel
theorem dX3_find_96 : decode cX3_find 96 = .ok (.iload 8, 2) := by decide +kernel
theorem dX3_find_98 : decode cX3_find 98 = .ok (.ifCond .ne 15, 3) := by decide +kernel
theorem dX3_find_101 : decode cX3_find 101 = .ok (.lload_n 3, 1) := by decide +kernel
theorem dX3_find_102 : decode cX3_find 102 = .ok (.lload 5, 2) := by decide +kernel
theorem dX3_find_104 : decode cX3_find 104 = .ok (.aload_n 0, 1) := by decide +kernel
theorem dX3_find_105 : decode cX3_find 105 = .ok (.getfield 37, 3) := by decide +kernel
theorem dX3_find_108 : decode cX3_find 108 = .ok (.iload_n 2, 1) := by decide +kernel
theorem dX3_find_109 : decode cX3_find 109 = .ok (.invokestatic 41, 3) := by decide +kernel
theorem dX3_find_112 : decode cX3_find 112 = .ok (.lstore_n 3, 1) := by decide +kernel
theorem dX3_find_113 : decode cX3_find 113 = .ok (.iinc 7 1, 3) := by decide +kernel
theorem dX3_find_116 : decode cX3_find 116 = .ok (.goto (-88), 3) := by decide +kernel
theorem dX3_find_119 : decode cX3_find 119 = .ok (.aload_n 0, 1) := by decide +kernel
theorem dX3_find_120 : decode cX3_find 120 = .ok (.lload_n 3, 1) := by decide +kernel
theorem dX3_find_121 : decode cX3_find 121 = .ok (.iload_n 2, 1) := by decide +kernel
theorem dX3_find_122 : decode cX3_find 122 = .ok (.invokestatic 45, 3) := by decide +kernel
theorem dX3_find_125 : decode cX3_find 125 = .ok (.putfield 48, 3) := by decide +kernel
theorem dX3_find_128 : decode cX3_find 128 = .ok (.return_, 1) := by decide +kernel
theorem dX3_numberFrom_0 : decode cX3_numberFrom 0 = .ok (.aload_n 0, 1) := by decide +kernel
theorem dX3_numberFrom_1 : decode cX3_numberFrom 1 = .ok (.lconst 0, 1) := by decide +kernel
theorem dX3_numberFrom_2 : decode cX3_numberFrom 2 = .ok (.putfield 52, 3) := by decide +kernel
theorem dX3_numberFrom_5 : decode cX3_numberFrom 5 = .ok (.aload_n 0, 1) := by decide +kernel
theorem dX3_numberFrom_6 : decode cX3_numberFrom 6 = .ok (.lconst 0, 1) := by decide +kernel
theorem dX3_numberFrom_7 : decode cX3_numberFrom 7 = .ok (.iconst 0, 1) := by decide +kernel
theorem dX3_numberFrom_8 : decode cX3_numberFrom 8 = .ok (.iload_n 1, 1) := by decide +kernel
theorem dX3_numberFrom_9 : decode cX3_numberFrom 9 = .ok (.invokestatic 55, 3) := by decide +kernel
theorem dX3_numberFrom_12 : decode cX3_numberFrom 12 = .ok (.putfield 37, 3) := by decide +kernel
theorem dX3_numberFrom_15 : decode cX3_numberFrom 15 = .ok (.iconst 1, 1) := by decide +kernel
theorem dX3_numberFrom_16 : decode cX3_numberFrom 16 = .ok (.iload_n 1, 1) := by decide +kernel
theorem dX3_numberFrom_17 : decode cX3_numberFrom 17 = .ok (.ishl, 1) := by decide +kernel
theorem dX3_numberFrom_18 : decode cX3_numberFrom 18 = .ok (.istore 4, 2) := by decide +kernel
theorem dX3_numberFrom_20 : decode cX3_numberFrom 20 = .ok (.iconst 1, 1) := by decide +kernel
theorem dX3_numberFrom_21 : decode cX3_numberFrom 21 = .ok (.istore 5, 2) := by decide +kernel
theorem dX3_numberFrom_23 : decode cX3_numberFrom 23 = .ok (.iload_n 1, 1) := by decide +kernel
theorem dX3_numberFrom_24 : decode cX3_numberFrom 24 = .ok (.ifCond .le 7, 3) := by decide +kernel
theorem dX3_numberFrom_27 : decode cX3_numberFrom 27 = .ok (.iconst 1, 1) := by decide +kernel
theorem dX3_numberFrom_28 : decode cX3_numberFrom 28 = .ok (.goto 4, 3) := by decide +kernel
theorem dX3_numberFrom_31 : decode cX3_numberFrom 31 = .ok (.iconst 0, 1) := by decide +kernel
theorem dX3_numberFrom_32 : decode cX3_numberFrom 32 = .ok (.istore 6, 2) := by decide +kernel
theorem dX3_numberFrom_34 : decode cX3_numberFrom 34 = .ok (.iconst 0, 1) := by decide +kernel
theorem dX3_numberFrom_35 : decode cX3_numberFrom 35 = .ok (.istore 7, 2) := by decide +kernel
theorem dX3_numberFrom_37 : decode cX3_numberFrom 37 = .ok (.iload 7, 2) := by decide +kernel
theorem dX3_numberFrom_39 : decode cX3_numberFrom 39 = .ok (.iload 5, 2) := by decide +kernel
theorem dX3_numberFrom_41 : decode cX3_numberFrom 41 = .ok (.if_icmp .ge 157, 3) := by decide +kernel
theorem dX3_numberFrom_44 : decode cX3_numberFrom 44 = .ok (.iload 5, 2) := by decide +kernel
theorem dX3_numberFrom_46 : decode cX3_numberFrom 46 = .ok (.iload_n 3, 1) := by decide +kernel
theorem dX3_numberFrom_47 : decode cX3_numberFrom 47 = .ok (.if_icmp .ge 151, 3) := by decide +kernel
theorem dX3_numberFrom_50 : decode cX3_numberFrom 50 = .ok (.aload_n 0, 1) := by decide +kernel
theorem dX3_numberFrom_51 : decode cX3_numberFrom 51 = .ok (.getfield 37, 3) := by decide +kernel
theorem dX3_numberFrom_54 : decode cX3_numberFrom 54 = .ok (.iload 7, 2) := by decide +kernel
theorem dX3_numberFrom_56 : decode cX3_numberFrom 56 = .ok (.invokestatic 21, 3) := by decide +kernel
theorem dX3_numberFrom_59 : decode cX3_numberFrom 59 = .ok (.istore 8, 2) := by decide +kernel
theorem dX3_numberFrom_61 : decode cX3_numberFrom 61 = .ok (.iconst 0, 1) := by decide +kernel
theorem dX3_numberFrom_62 : decode cX3_numberFrom 62 = .ok (.istore 9, 2) := by decide +kernel
theorem dX3_numberFrom_64 : decode cX3_numberFrom 64 = .ok (.iload 9, 2) := by decide +kernel
theorem dX3_numberFrom_66 : decode cX3_numberFrom 66 = .ok (.aload_n 2, 1) := by decide +kernel
theorem dX3_numberFrom_67 : decode cX3_numberFrom 67 = .ok (.arraylength, 1) := by decide +kernel
theorem dX3_numberFrom_68 : decode cX3_numberFrom 68 = .ok (.if_icmp .ge 124, 3) := by decide +kernel
theorem dX3_numberFrom_71 : decode cX3_numberFrom 71 = .ok (.aload_n 2, 1) := by decide +kernel
theorem dX3_numberFrom_72 : decode cX3_numberFrom 72 = .ok (.iload 9, 2) := by decide +kernel
theorem dX3_numberFrom_74 : decode cX3_numberFrom 74 = .ok (.laload, 1) := by decide +kernel
theorem dX3_numberFrom_75 : decode cX3_numberFrom 75 = .ok (.iload 8, 2) := by decide +kernel
theorem dX3_numberFrom_77 : decode cX3_numberFrom 77 = .ok (.invokestatic 21, 3) := by decide +kernel
theorem dX3_numberFrom_80 : decode cX3_numberFrom 80 = .ok (.istore 10, 2) := by decide +kernel
theorem dX3_numberFrom_82 : decode cX3_numberFrom 82 = .ok (.iload 4, 2) := by decide +kernel
theorem dX3_numberFrom_84 : decode cX3_numberFrom 84 = .ok (.iload 10, 2) := by decide +kernel
theorem dX3_numberFrom_86 : decode cX3_numberFrom 86 = .ok (.ishr, 1) := by decide +kernel
theorem dX3_numberFrom_87 : decode cX3_numberFrom 87 = .ok (.iconst 1, 1) := by decide +kernel
theorem dX3_numberFrom_88 : decode cX3_numberFrom 88 = .ok (.iand, 1) := by decide +kernel
theorem dX3_numberFrom_89 : decode cX3_numberFrom 89 = .ok (.ifCond .ne 45, 3) := by decide +kernel
theorem dX3_numberFrom_92 : decode cX3_numberFrom 92 = .ok (.iload 4, 2) := by decide +kernel
theorem dX3_numberFrom_94 : decode cX3_numberFrom 94 = .ok (.iconst 1, 1) := by decide +kernel
theorem dX3_numberFrom_95 : decode cX3_numberFrom 95 = .ok (.iload 10, 2) := by decide +kernel
theorem dX3_numberFrom_97 : decode cX3_numberFrom 97 = .ok (.ishl, 1) := by decide +kernel
theorem dX3_numberFrom_98 : decode cX3_numberFrom 98 = .ok (.ior, 1) := by decide +kernel
theorem dX3_numberFrom_99 : decode cX3_numberFrom 99 = .ok (.istore 4, 2) := by decide +kernel
theorem dX3_numberFrom_101 : decode cX3_numberFrom 101 = .ok (.aload_n 0, 1) := by decide +kernel
theorem dX3_numberFrom_102 : decode cX3_numberFrom 102 = .ok (.aload_n 0, 1) := by decide +kernel
theorem dX3_numberFrom_103 : decode cX3_numberFrom 103 = .ok (.getfield 52, 3) := by decide +kernel
theorem dX3_numberFrom_106 : decode cX3_numberFrom 106 = .ok (.iload 10, 2) := by decide +kernel
theorem dX3_numberFrom_108 : decode cX3_numberFrom 108 = .ok (.iload 5, 2) := by decide +kernel
theorem dX3_numberFrom_110 : decode cX3_numberFrom 110 = .ok (.invokestatic 55, 3) := by decide +kernel
theorem dX3_numberFrom_113 : decode cX3_numberFrom 113 = .ok (.putfield 52, 3) := by decide +kernel
theorem dX3_numberFrom_116 : decode cX3_numberFrom 116 = .ok (.aload_n 0, 1) := by decide +kernel
theorem dX3_numberFrom_117 : decode cX3_numberFrom 117 = .ok (.aload_n 0, 1) := by decide +kernel
theorem dX3_numberFrom_118 : decode cX3_numberFrom 118 = .ok (.getfield 37, 3) := by decide +kernel
theorem dX3_numberFrom_121 : decode cX3_numberFrom 121 = .ok (.iload 5, 2) := by decide +kernel
theorem dX3_numberFrom_123 : decode cX3_numberFrom 123 = .ok (.iload 10, 2) := by decide +kernel
theorem dX3_numberFrom_125 : decode cX3_numberFrom 125 = .ok (.invokestatic 55, 3) := by decide +kernel
theorem dX3_numberFrom_128 : decode cX3_numberFrom 128 = .ok (.putfield 37, 3) := by decide +kernel
theorem dX3_numberFrom_131 : decode cX3_numberFrom 131 = .ok (.iinc 5 1, 3) := by decide +kernel
theorem dX3_numberFrom_134 : decode cX3_numberFrom 134 = .ok (.iload 6, 2) := by decide +kernel
theorem dX3_numberFrom_136 : decode cX3_numberFrom 136 = .ok (.ifCond .eq 50, 3) := by decide +kernel
theorem dX3_numberFrom_139 : decode cX3_numberFrom 139 = .ok (.iload 9, 2) := by decide +kernel
theorem dX3_numberFrom_141 : decode cX3_numberFrom 141 = .ok (.ifCond .ne 45, 3) := by decide +kernel
theorem dX3_numberFrom_144 : decode cX3_numberFrom 144 = .ok (.aload_n 0, 1) := by decide +kernel
theorem dX3_numberFrom_145 : decode cX3_numberFrom 145 = .ok (.getfield 52, 3) := by decide +kernel
theorem dX3_numberFrom_148 : decode cX3_numberFrom 148 = .ok (.iload 10, 2) := by decide +kernel
theorem dX3_numberFrom_150 : decode cX3_numberFrom 150 = .ok (.invokestatic 21, 3) := by decide +kernel
theorem dX3_numberFrom_153 : decode cX3_numberFrom 153 = .ok (.aload_n 0, 1) := by decide +kernel
theorem dX3_numberFrom_154 : decode cX3_numberFrom 154 = .ok (.getfield 9, 3) := by decide +kernel
theorem dX3_numberFrom_157 : decode cX3_numberFrom 157 = .ok (.iconst 0, 1) := by decide +kernel
theorem dX3_numberFrom_158 : decode cX3_numberFrom 158 = .ok (.laload, 1) := by decide +kernel
theorem dX3_numberFrom_159 : decode cX3_numberFrom 159 = .ok (.iload 7, 2) := by decide +kernel
theorem dX3_numberFrom_161 : decode cX3_numberFrom 161 = .ok (.invokestatic 21, 3) := by decide +kernel
theorem dX3_numberFrom_164 : decode cX3_numberFrom 164 = .ok (.isub, 1) := by decide +kernel
theorem dX3_numberFrom_165 : decode cX3_numberFrom 165 = .ok (.istore 11, 2) := by decide +kernel
theorem dX3_numberFrom_167 : decode cX3_numberFrom 167 = .ok (.iload 11, 2) := by decide +kernel
theorem dX3_numberFrom_169 : decode cX3_numberFrom 169 = .ok (.ifCond .le 5, 3) := by decide +kernel
theorem dX3_numberFrom_172 : decode cX3_numberFrom 172 = .ok (.iconst 0, 1) := by decide +kernel
theorem dX3_numberFrom_173 : decode cX3_numberFrom 173 = .ok (.ireturn, 1) := by decide +kernel
theorem dX3_numberFrom_174 : decode cX3_numberFrom 174 = .ok (.iload 11, 2) := by decide +kernel
theorem dX3_numberFrom_176 : decode cX3_numberFrom 176 = .ok (.ifCond .ne 7, 3) := by decide +kernel
theorem dX3_numberFrom_179 : decode cX3_numberFrom 179 = .ok (.iconst 1, 1) := by decide +kernel
theorem dX3_numberFrom_180 : decode cX3_numberFrom 180 = .ok (.goto 4, 3) := by decide +kernel
theorem dX3_numberFrom_183 : decode cX3_numberFrom 183 = .ok (.iconst 0, 1) := by decide +kernel
theorem dX3_numberFrom_184 : decode cX3_numberFrom 184 = .ok (.istore 6, 2) := by decide +kernel
theorem dX3_numberFrom_186 : decode cX3_numberFrom 186 = .ok (.iinc 9 1, 3) := by decide +kernel
theorem dX3_numberFrom_189 : decode cX3_numberFrom 189 = .ok (.goto (-125), 3) := by decide +kernel
theorem dX3_numberFrom_192 : decode cX3_numberFrom 192 = .ok (.iinc 7 1, 3) := by decide +kernel
theorem dX3_numberFrom_195 : decode cX3_numberFrom 195 = .ok (.goto (-158), 3) := by decide +kernel
theorem dX3_numberFrom_198 : decode cX3_numberFrom 198 = .ok (.iconst 1, 1) := by decide +kernel
theorem dX3_numberFrom_199 : decode cX3_numberFrom 199 = .ok (.ireturn, 1) := by decide +kernel
theorem dX3_renamed_0 : decode cX3_renamed 0 = .ok (.lconst 0, 1) := by decide +kernel
theorem dX3_renamed_1 : decode cX3_renamed 1 = .ok (.lstore 4, 2) := by decide +kernel
theorem dX3_renamed_3 : decode cX3_renamed 3 = .ok (.iconst 0, 1) := by decide +kernel
theorem dX3_renamed_4 : decode cX3_renamed 4 = .ok (.istore 6, 2) := by decide +kernel
theorem dX3_renamed_6 : decode cX3_renamed 6 = .ok (.iload 6, 2) := by decide +kernel
theorem dX3_renamed_8 : decode cX3_renamed 8 = .ok (.iload_n 3, 1) := by decide +kernel
theorem dX3_renamed_9 : decode cX3_renamed 9 = .ok (.if_icmp .ge 42, 3) := by decide +kernel
theorem dX3_renamed_12 : decode cX3_renamed 12 = .ok (.lload_n 1, 1) := by decide +kernel
theorem dX3_renamed_13 : decode cX3_renamed 13 = .ok (.aload_n 0, 1) := by decide +kernel
theorem dX3_renamed_14 : decode cX3_renamed 14 = .ok (.getfield 37, 3) := by decide +kernel
theorem dX3_renamed_17 : decode cX3_renamed 17 = .ok (.iload 6, 2) := by decide +kernel
theorem dX3_renamed_19 : decode cX3_renamed 19 = .ok (.invokestatic 21, 3) := by decide +kernel
theorem dX3_renamed_22 : decode cX3_renamed 22 = .ok (.invokestatic 21, 3) := by decide +kernel
theorem dX3_renamed_25 : decode cX3_renamed 25 = .ok (.istore 7, 2) := by decide +kernel
theorem dX3_renamed_27 : decode cX3_renamed 27 = .ok (.lload 4, 2) := by decide +kernel
theorem dX3_renamed_29 : decode cX3_renamed 29 = .ok (.iload 6, 2) := by decide +kernel
theorem dX3_renamed_31 : decode cX3_renamed 31 = .ok (.aload_n 0, 1) := by decide +kernel
theorem dX3_renamed_32 : decode cX3_renamed 32 = .ok (.getfield 52, 3) := by decide +kernel
theorem dX3_renamed_35 : decode cX3_renamed 35 = .ok (.iload 7, 2) := by decide +kernel
theorem dX3_renamed_37 : decode cX3_renamed 37 = .ok (.invokestatic 21, 3) := by decide +kernel
theorem dX3_renamed_40 : decode cX3_renamed 40 = .ok (.invokestatic 55, 3) := by decide +kernel
theorem dX3_renamed_43 : decode cX3_renamed 43 = .ok (.lstore 4, 2) := by decide +kernel
theorem dX3_renamed_45 : decode cX3_renamed 45 = .ok (.iinc 6 1, 3) := by decide +kernel
theorem dX3_renamed_48 : decode cX3_renamed 48 = .ok (.goto (-42), 3) := by decide +kernel
theorem dX3_renamed_51 : decode cX3_renamed 51 = .ok (.lload 4, 2) := by decide +kernel
theorem dX3_renamed_53 : decode cX3_renamed 53 = .ok (.lreturn, 1) := by decide +kernel
theorem dX3_againstLeast_0 : decode cX3_againstLeast 0 = .ok (.iconst 0, 1) := by decide +kernel
theorem dX3_againstLeast_1 : decode cX3_againstLeast 1 = .ok (.istore_n 3, 1) := by decide +kernel
theorem dX3_againstLeast_2 : decode cX3_againstLeast 2 = .ok (.iload_n 3, 1) := by decide +kernel
theorem dX3_againstLeast_3 : decode cX3_againstLeast 3 = .ok (.aload_n 1, 1) := by decide +kernel
theorem dX3_againstLeast_4 : decode cX3_againstLeast 4 = .ok (.arraylength, 1) := by decide +kernel
theorem dX3_againstLeast_5 : decode cX3_againstLeast 5 = .ok (.if_icmp .ge 36, 3) := by decide +kernel
theorem dX3_againstLeast_8 : decode cX3_againstLeast 8 = .ok (.aload_n 0, 1) := by decide +kernel
theorem dX3_againstLeast_9 : decode cX3_againstLeast 9 = .ok (.aload_n 1, 1) := by decide +kernel
theorem dX3_againstLeast_10 : decode cX3_againstLeast 10 = .ok (.iload_n 3, 1) := by decide +kernel
theorem dX3_againstLeast_11 : decode cX3_againstLeast 11 = .ok (.laload, 1) := by decide +kernel
theorem dX3_againstLeast_12 : decode cX3_againstLeast 12 = .ok (.iload_n 2, 1) := by decide +kernel
theorem dX3_againstLeast_13 : decode cX3_againstLeast 13 = .ok (.invokevirtual 59, 3) := by decide +kernel
theorem dX3_againstLeast_16 : decode cX3_againstLeast 16 = .ok (.aload_n 0, 1) := by decide +kernel
theorem dX3_againstLeast_17 : decode cX3_againstLeast 17 = .ok (.getfield 9, 3) := by decide +kernel
theorem dX3_againstLeast_20 : decode cX3_againstLeast 20 = .ok (.iload_n 3, 1) := by decide +kernel
theorem dX3_againstLeast_21 : decode cX3_againstLeast 21 = .ok (.laload, 1) := by decide +kernel
theorem dX3_againstLeast_22 : decode cX3_againstLeast 22 = .ok (.invokestatic 63, 3) := by decide +kernel
theorem dX3_againstLeast_25 : decode cX3_againstLeast 25 = .ok (.istore 4, 2) := by decide +kernel
theorem dX3_againstLeast_27 : decode cX3_againstLeast 27 = .ok (.iload 4, 2) := by decide +kernel
theorem dX3_againstLeast_29 : decode cX3_againstLeast 29 = .ok (.ifCond .eq 6, 3) := by decide +kernel
theorem dX3_againstLeast_32 : decode cX3_againstLeast 32 = .ok (.iload 4, 2) := by decide +kernel
theorem dX3_againstLeast_34 : decode cX3_againstLeast 34 = .ok (.ireturn, 1) := by decide +kernel
theorem dX3_againstLeast_35 : decode cX3_againstLeast 35 = .ok (.iinc 3 1, 3) := by decide +kernel
theorem dX3_againstLeast_38 : decode cX3_againstLeast 38 = .ok (.goto (-36), 3) := by decide +kernel
theorem dX3_againstLeast_41 : decode cX3_againstLeast 41 = .ok (.iconst 0, 1) := by decide +kernel
theorem dX3_againstLeast_42 : decode cX3_againstLeast 42 = .ok (.ireturn, 1) := by decide +kernel
theorem dX3_keepAsLeast_0 : decode cX3_keepAsLeast 0 = .ok (.iconst 0, 1) := by decide +kernel
theorem dX3_keepAsLeast_1 : decode cX3_keepAsLeast 1 = .ok (.istore_n 3, 1) := by decide +kernel
theorem dX3_keepAsLeast_2 : decode cX3_keepAsLeast 2 = .ok (.iload_n 3, 1) := by decide +kernel
theorem dX3_keepAsLeast_3 : decode cX3_keepAsLeast 3 = .ok (.aload_n 1, 1) := by decide +kernel
theorem dX3_keepAsLeast_4 : decode cX3_keepAsLeast 4 = .ok (.arraylength, 1) := by decide +kernel
theorem dX3_keepAsLeast_5 : decode cX3_keepAsLeast 5 = .ok (.if_icmp .ge 23, 3) := by decide +kernel
theorem dX3_keepAsLeast_8 : decode cX3_keepAsLeast 8 = .ok (.aload_n 0, 1) := by decide +kernel
theorem dX3_keepAsLeast_9 : decode cX3_keepAsLeast 9 = .ok (.getfield 9, 3) := by decide +kernel
theorem dX3_keepAsLeast_12 : decode cX3_keepAsLeast 12 = .ok (.iload_n 3, 1) := by decide +kernel
theorem dX3_keepAsLeast_13 : decode cX3_keepAsLeast 13 = .ok (.aload_n 0, 1) := by decide +kernel
theorem dX3_keepAsLeast_14 : decode cX3_keepAsLeast 14 = .ok (.aload_n 1, 1) := by decide +kernel
theorem dX3_keepAsLeast_15 : decode cX3_keepAsLeast 15 = .ok (.iload_n 3, 1) := by decide +kernel
theorem dX3_keepAsLeast_16 : decode cX3_keepAsLeast 16 = .ok (.laload, 1) := by decide +kernel
theorem dX3_keepAsLeast_17 : decode cX3_keepAsLeast 17 = .ok (.iload_n 2, 1) := by decide +kernel
theorem dX3_keepAsLeast_18 : decode cX3_keepAsLeast 18 = .ok (.invokevirtual 59, 3) := by decide +kernel
theorem dX3_keepAsLeast_21 : decode cX3_keepAsLeast 21 = .ok (.lastore, 1) := by decide +kernel
theorem dX3_keepAsLeast_22 : decode cX3_keepAsLeast 22 = .ok (.iinc 3 1, 3) := by decide +kernel
theorem dX3_keepAsLeast_25 : decode cX3_keepAsLeast 25 = .ok (.goto (-23), 3) := by decide +kernel
theorem dX3_keepAsLeast_28 : decode cX3_keepAsLeast 28 = .ok (.return_, 1) := by decide +kernel
theorem dX4_init_0 : decode cX4_init 0 = .ok (.aload_n 0, 1) := by decide +kernel
theorem dX4_init_1 : decode cX4_init 1 = .ok (.iload_n 1, 1) := by decide +kernel
theorem dX4_init_2 : decode cX4_init 2 = .ok (.aload_n 2, 1) := by decide +kernel
theorem dX4_init_3 : decode cX4_init 3 = .ok (.iload_n 3, 1) := by decide +kernel
theorem dX4_init_4 : decode cX4_init 4 = .ok (.invokespecial 1, 3) := by decide +kernel
theorem dX4_init_7 : decode cX4_init 7 = .ok (.return_, 1) := by decide +kernel
theorem dX4_kindNumber_0 : decode cX4_kindNumber 0 = .ok (.iconst 4, 1) := by decide +kernel
theorem dX4_kindNumber_1 : decode cX4_kindNumber 1 = .ok (.ireturn, 1) := by decide +kernel
theorem dX4_sizeAsked_0 : decode cX4_sizeAsked 0 = .ok (.aload_n 1, 1) := by decide +kernel
theorem dX4_sizeAsked_1 : decode cX4_sizeAsked 1 = .ok (.bipush 14, 2) := by decide +kernel
theorem dX4_sizeAsked_3 : decode cX4_sizeAsked 3 = .ok (.invokevirtual 7, 3) := by decide +kernel
theorem dX4_sizeAsked_6 : decode cX4_sizeAsked 6 = .ok (.aload_n 0, 1) := by decide +kernel
theorem dX4_sizeAsked_7 : decode cX4_sizeAsked 7 = .ok (.aload_n 1, 1) := by decide +kernel
theorem dX4_sizeAsked_8 : decode cX4_sizeAsked 8 = .ok (.invokespecial 13, 3) := by decide +kernel
theorem dX4_sizeAsked_11 : decode cX4_sizeAsked 11 = .ok (.istore_n 2, 1) := by decide +kernel
theorem dX4_sizeAsked_12 : decode cX4_sizeAsked 12 = .ok (.iload_n 2, 1) := by decide +kernel
theorem dX4_sizeAsked_13 : decode cX4_sizeAsked 13 = .ok (.aload_n 0, 1) := by decide +kernel
theorem dX4_sizeAsked_14 : decode cX4_sizeAsked 14 = .ok (.aload_n 1, 1) := by decide +kernel
theorem dX4_sizeAsked_15 : decode cX4_sizeAsked 15 = .ok (.invokevirtual 17, 3) := by decide +kernel
theorem dX4_sizeAsked_18 : decode cX4_sizeAsked 18 = .ok (.iadd, 1) := by decide +kernel
theorem dX4_sizeAsked_19 : decode cX4_sizeAsked 19 = .ok (.ireturn, 1) := by decide +kernel
theorem dX4_markAsked_0 : decode cX4_markAsked 0 = .ok (.aload_n 1, 1) := by decide +kernel
theorem dX4_markAsked_1 : decode cX4_markAsked 1 = .ok (.bipush 22, 2) := by decide +kernel
theorem dX4_markAsked_3 : decode cX4_markAsked 3 = .ok (.invokevirtual 7, 3) := by decide +kernel
theorem dX4_markAsked_6 : decode cX4_markAsked 6 = .ok (.aload_n 0, 1) := by decide +kernel
theorem dX4_markAsked_7 : decode cX4_markAsked 7 = .ok (.aload_n 1, 1) := by decide +kernel
theorem dX4_markAsked_8 : decode cX4_markAsked 8 = .ok (.invokespecial 22, 3) := by decide +kernel
theorem dX4_markAsked_11 : decode cX4_markAsked 11 = .ok (.aload_n 0, 1) := by decide +kernel
theorem dX4_markAsked_12 : decode cX4_markAsked 12 = .ok (.iconst 2, 1) := by decide +kernel
theorem dX4_markAsked_13 : decode cX4_markAsked 13 = .ok (.invokevirtual 23, 3) := by decide +kernel
theorem dX4_markAsked_16 : decode cX4_markAsked 16 = .ok (.iadd, 1) := by decide +kernel
theorem dX4_markAsked_17 : decode cX4_markAsked 17 = .ok (.ireturn, 1) := by decide +kernel
theorem dX5_at_0 : decode cX5_at 0 = .ok (.lload_n 0, 1) := by decide +kernel
theorem dX5_at_1 : decode cX5_at 1 = .ok (.bipush 44, 2) := by decide +kernel
theorem dX5_at_3 : decode cX5_at 3 = .ok (.iconst 4, 1) := by decide +kernel
theorem dX5_at_4 : decode cX5_at 4 = .ok (.iload_n 2, 1) := by decide +kernel
theorem dX5_at_5 : decode cX5_at 5 = .ok (.imul, 1) := by decide +kernel
theorem dX5_at_6 : decode cX5_at 6 = .ok (.isub, 1) := by decide +kernel
theorem dX5_at_7 : decode cX5_at 7 = .ok (.lushr, 1) := by decide +kernel
theorem dX5_at_8 : decode cX5_at 8 = .ok (.l2i, 1) := by decide +kernel
theorem dX5_at_9 : decode cX5_at 9 = .ok (.bipush 15, 2) := by decide +kernel
theorem dX5_at_11 : decode cX5_at 11 = .ok (.iand, 1) := by decide +kernel
theorem dX5_at_12 : decode cX5_at 12 = .ok (.ireturn, 1) := by decide +kernel
theorem dX5_with_0 : decode cX5_with 0 = .ok (.lload_n 0, 1) := by decide +kernel
theorem dX5_with_1 : decode cX5_with 1 = .ok (.iload_n 3, 1) := by decide +kernel
theorem dX5_with_2 : decode cX5_with 2 = .ok (.i2l, 1) := by decide +kernel
theorem dX5_with_3 : decode cX5_with 3 = .ok (.bipush 44, 2) := by decide +kernel
theorem dX5_with_5 : decode cX5_with 5 = .ok (.iconst 4, 1) := by decide +kernel
theorem dX5_with_6 : decode cX5_with 6 = .ok (.iload_n 2, 1) := by decide +kernel
theorem dX5_with_7 : decode cX5_with 7 = .ok (.imul, 1) := by decide +kernel
theorem dX5_with_8 : decode cX5_with 8 = .ok (.isub, 1) := by decide +kernel
theorem dX5_with_9 : decode cX5_with 9 = .ok (.lshl, 1) := by decide +kernel
theorem dX5_with_10 : decode cX5_with 10 = .ok (.lor, 1) := by decide +kernel
theorem dX5_with_11 : decode cX5_with 11 = .ok (.lreturn, 1) := by decide +kernel
theorem dX5_still_0 : decode cX5_still 0 = .ok (.lconst 0, 1) := by decide +kernel
theorem dX5_still_1 : decode cX5_still 1 = .ok (.lstore_n 1, 1) := by decide +kernel
theorem dX5_still_2 : decode cX5_still 2 = .ok (.iconst 0, 1) := by decide +kernel
theorem dX5_still_3 : decode cX5_still 3 = .ok (.istore_n 3, 1) := by decide +kernel
theorem dX5_still_4 : decode cX5_still 4 = .ok (.iload_n 3, 1) := by decide +kernel
theorem dX5_still_5 : decode cX5_still 5 = .ok (.iload_n 0, 1) := by decide +kernel
theorem dX5_still_6 : decode cX5_still 6 = .ok (.if_icmp .ge 16, 3) := by decide +kernel
theorem dX5_still_9 : decode cX5_still 9 = .ok (.lload_n 1, 1) := by decide +kernel
theorem dX5_still_10 : decode cX5_still 10 = .ok (.iload_n 3, 1) := by decide +kernel
theorem dX5_still_11 : decode cX5_still 11 = .ok (.iload_n 3, 1) := by decide +kernel
theorem dX5_still_12 : decode cX5_still 12 = .ok (.invokestatic 9, 3) := by decide +kernel
theorem dX5_still_15 : decode cX5_still 15 = .ok (.lstore_n 1, 1) := by decide +kernel
theorem dX5_still_16 : decode cX5_still 16 = .ok (.iinc 3 1, 3) := by decide +kernel
theorem dX5_still_19 : decode cX5_still 19 = .ok (.goto (-15), 3) := by decide +kernel
theorem dX5_still_22 : decode cX5_still 22 = .ok (.lload_n 1, 1) := by decide +kernel
theorem dX5_still_23 : decode cX5_still 23 = .ok (.lreturn, 1) := by decide +kernel
theorem dX5_behind_0 : decode cX5_behind 0 = .ok (.lconst 0, 1) := by decide +kernel
theorem dX5_behind_1 : decode cX5_behind 1 = .ok (.lstore 5, 2) := by decide +kernel
theorem dX5_behind_3 : decode cX5_behind 3 = .ok (.iconst 0, 1) := by decide +kernel
theorem dX5_behind_4 : decode cX5_behind 4 = .ok (.istore 7, 2) := by decide +kernel
theorem dX5_behind_6 : decode cX5_behind 6 = .ok (.iload 7, 2) := by decide +kernel
theorem dX5_behind_8 : decode cX5_behind 8 = .ok (.iload 4, 2) := by decide +kernel
theorem dX5_behind_10 : decode cX5_behind 10 = .ok (.if_icmp .ge 28, 3) := by decide +kernel
theorem dX5_behind_13 : decode cX5_behind 13 = .ok (.lload 5, 2) := by decide +kernel
theorem dX5_behind_15 : decode cX5_behind 15 = .ok (.iload 7, 2) := by decide +kernel
theorem dX5_behind_17 : decode cX5_behind 17 = .ok (.lload_n 2, 1) := by decide +kernel
theorem dX5_behind_18 : decode cX5_behind 18 = .ok (.lload_n 0, 1) := by decide +kernel
theorem dX5_behind_19 : decode cX5_behind 19 = .ok (.iload 7, 2) := by decide +kernel
theorem dX5_behind_21 : decode cX5_behind 21 = .ok (.invokestatic 13, 3) := by decide +kernel
theorem dX5_behind_24 : decode cX5_behind 24 = .ok (.invokestatic 13, 3) := by decide +kernel
theorem dX5_behind_27 : decode cX5_behind 27 = .ok (.invokestatic 9, 3) := by decide +kernel
theorem dX5_behind_30 : decode cX5_behind 30 = .ok (.lstore 5, 2) := by decide +kernel
theorem dX5_behind_32 : decode cX5_behind 32 = .ok (.iinc 7 1, 3) := by decide +kernel
theorem dX5_behind_35 : decode cX5_behind 35 = .ok (.goto (-29), 3) := by decide +kernel
theorem dX5_behind_38 : decode cX5_behind 38 = .ok (.lload 5, 2) := by decide +kernel
theorem dX5_behind_40 : decode cX5_behind 40 = .ok (.lreturn, 1) := by decide +kernel
theorem dX5_inverse_0 : decode cX5_inverse 0 = .ok (.lconst 0, 1) := by decide +kernel
theorem dX5_inverse_1 : decode cX5_inverse 1 = .ok (.lstore_n 3, 1) := by decide +kernel
theorem dX5_inverse_2 : decode cX5_inverse 2 = .ok (.iconst 0, 1) := by decide +kernel
theorem dX5_inverse_3 : decode cX5_inverse 3 = .ok (.istore 5, 2) := by decide +kernel
theorem dX5_inverse_5 : decode cX5_inverse 5 = .ok (.iload 5, 2) := by decide +kernel
theorem dX5_inverse_7 : decode cX5_inverse 7 = .ok (.iload_n 2, 1) := by decide +kernel
theorem dX5_inverse_8 : decode cX5_inverse 8 = .ok (.if_icmp .ge 22, 3) := by decide +kernel
theorem dX5_inverse_11 : decode cX5_inverse 11 = .ok (.lload_n 3, 1) := by decide +kernel
theorem dX5_inverse_12 : decode cX5_inverse 12 = .ok (.lload_n 0, 1) := by decide +kernel
theorem dX5_inverse_13 : decode cX5_inverse 13 = .ok (.iload 5, 2) := by decide +kernel
theorem dX5_inverse_15 : decode cX5_inverse 15 = .ok (.invokestatic 13, 3) := by decide +kernel
theorem dX5_inverse_18 : decode cX5_inverse 18 = .ok (.iload 5, 2) := by decide +kernel
theorem dX5_inverse_20 : decode cX5_inverse 20 = .ok (.invokestatic 9, 3) := by decide +kernel
theorem dX5_inverse_23 : decode cX5_inverse 23 = .ok (.lstore_n 3, 1) := by decide +kernel
theorem dX5_inverse_24 : decode cX5_inverse 24 = .ok (.iinc 5 1, 3) := by decide +kernel
theorem dX5_inverse_27 : decode cX5_inverse 27 = .ok (.goto (-22), 3) := by decide +kernel
theorem dX5_inverse_30 : decode cX5_inverse 30 = .ok (.lload_n 3, 1) := by decide +kernel
theorem dX5_inverse_31 : decode cX5_inverse 31 = .ok (.lreturn, 1) := by decide +kernel
theorem dX5_merged_0 : decode cX5_merged 0 = .ok (.iload_n 2, 1) := by decide +kernel
theorem dX5_merged_1 : decode cX5_merged 1 = .ok (.iload_n 3, 1) := by decide +kernel
theorem dX5_merged_2 : decode cX5_merged 2 = .ok (.if_icmp .ne 5, 3) := by decide +kernel
theorem dX5_merged_5 : decode cX5_merged 5 = .ok (.lload_n 0, 1) := by decide +kernel
theorem dX5_merged_6 : decode cX5_merged 6 = .ok (.lreturn, 1) := by decide +kernel
theorem dX5_merged_7 : decode cX5_merged 7 = .ok (.iload_n 2, 1) := by decide +kernel
theorem dX5_merged_8 : decode cX5_merged 8 = .ok (.iload_n 3, 1) := by decide +kernel
theorem dX5_merged_9 : decode cX5_merged 9 = .ok (.invokestatic 17, 3) := by decide +kernel
theorem dX5_merged_12 : decode cX5_merged 12 = .ok (.istore 5, 2) := by decide +kernel
theorem dX5_merged_14 : decode cX5_merged 14 = .ok (.iload_n 2, 1) := by decide +kernel
theorem dX5_merged_15 : decode cX5_merged 15 = .ok (.iload_n 3, 1) := by decide +kernel
theorem dX5_merged_16 : decode cX5_merged 16 = .ok (.invokestatic 23, 3) := by decide +kernel
theorem dX5_merged_19 : decode cX5_merged 19 = .ok (.istore 6, 2) := by decide +kernel
theorem dX5_merged_21 : decode cX5_merged 21 = .ok (.lconst 0, 1) := by decide +kernel
theorem dX5_merged_22 : decode cX5_merged 22 = .ok (.lstore 7, 2) := by decide +kernel
theorem dX5_merged_24 : decode cX5_merged 24 = .ok (.iconst 0, 1) := by decide +kernel
theorem dX5_merged_25 : decode cX5_merged 25 = .ok (.istore 9, 2) := by decide +kernel
theorem dX5_merged_27 : decode cX5_merged 27 = .ok (.iload 9, 2) := by decide +kernel
theorem dX5_merged_29 : decode cX5_merged 29 = .ok (.iload 4, 2) := by decide +kernel
theorem dX5_merged_31 : decode cX5_merged 31 = .ok (.if_icmp .ge 40, 3) := by decide +kernel
theorem dX5_merged_34 : decode cX5_merged 34 = .ok (.lload_n 0, 1) := by decide +kernel
theorem dX5_merged_35 : decode cX5_merged 35 = .ok (.iload 9, 2) := by decide +kernel
theorem dX5_merged_37 : decode cX5_merged 37 = .ok (.invokestatic 13, 3) := by decide +kernel
theorem dX5_merged_40 : decode cX5_merged 40 = .ok (.istore 10, 2) := by decide +kernel
theorem dX5_merged_42 : decode cX5_merged 42 = .ok (.lload 7, 2) := by decide +kernel
theorem dX5_merged_44 : decode cX5_merged 44 = .ok (.iload 9, 2) := by decide +kernel
theorem dX5_merged_46 : decode cX5_merged 46 = .ok (.iload 10, 2) := by decide +kernel
theorem dX5_merged_48 : decode cX5_merged 48 = .ok (.iload 6, 2) := by decide +kernel
theorem dX5_merged_50 : decode cX5_merged 50 = .ok (.if_icmp .ne 8, 3) := by decide +kernel
theorem dX5_merged_53 : decode cX5_merged 53 = .ok (.iload 5, 2) := by decide +kernel
theorem dX5_merged_55 : decode cX5_merged 55 = .ok (.goto 5, 3) := by decide +kernel
theorem dX5_merged_58 : decode cX5_merged 58 = .ok (.iload 10, 2) := by decide +kernel
theorem dX5_merged_60 : decode cX5_merged 60 = .ok (.invokestatic 9, 3) := by decide +kernel
theorem dX5_merged_63 : decode cX5_merged 63 = .ok (.lstore 7, 2) := by decide +kernel
theorem dX5_merged_65 : decode cX5_merged 65 = .ok (.iinc 9 1, 3) := by decide +kernel
theorem dX5_merged_68 : decode cX5_merged 68 = .ok (.goto (-41), 3) := by decide +kernel
theorem dX5_merged_71 : decode cX5_merged 71 = .ok (.lload 7, 2) := by decide +kernel
theorem dX5_merged_73 : decode cX5_merged 73 = .ok (.lreturn, 1) := by decide +kernel
theorem dX5_mergedAlong_0 : decode cX5_mergedAlong 0 = .ok (.lload_n 0, 1) := by decide +kernel
theorem dX5_mergedAlong_1 : decode cX5_mergedAlong 1 = .ok (.lstore 7, 2) := by decide +kernel
theorem dX5_mergedAlong_3 : decode cX5_mergedAlong 3 = .ok (.iconst 0, 1) := by decide +kernel
theorem dX5_mergedAlong_4 : decode cX5_mergedAlong 4 = .ok (.istore 9, 2) := by decide +kernel
theorem dX5_mergedAlong_6 : decode cX5_mergedAlong 6 = .ok (.iload 9, 2) := by decide +kernel
theorem dX5_mergedAlong_8 : decode cX5_mergedAlong 8 = .ok (.iload 6, 2) := by decide +kernel
theorem dX5_mergedAlong_10 : decode cX5_mergedAlong 10 = .ok (.if_icmp .ge 41, 3) := by decide +kernel
theorem dX5_mergedAlong_13 : decode cX5_mergedAlong 13 = .ok (.lload 7, 2) := by decide +kernel
theorem dX5_mergedAlong_15 : decode cX5_mergedAlong 15 = .ok (.lload 7, 2) := by decide +kernel
theorem dX5_mergedAlong_17 : decode cX5_mergedAlong 17 = .ok (.lload_n 2, 1) := by decide +kernel
theorem dX5_mergedAlong_18 : decode cX5_mergedAlong 18 = .ok (.iload 9, 2) := by decide +kernel
theorem dX5_mergedAlong_20 : decode cX5_mergedAlong 20 = .ok (.invokestatic 13, 3) := by decide +kernel
theorem dX5_mergedAlong_23 : decode cX5_mergedAlong 23 = .ok (.invokestatic 13, 3) := by decide +kernel
theorem dX5_mergedAlong_26 : decode cX5_mergedAlong 26 = .ok (.lload 7, 2) := by decide +kernel
theorem dX5_mergedAlong_28 : decode cX5_mergedAlong 28 = .ok (.lload 4, 2) := by decide +kernel
theorem dX5_mergedAlong_30 : decode cX5_mergedAlong 30 = .ok (.iload 9, 2) := by decide +kernel
theorem dX5_mergedAlong_32 : decode cX5_mergedAlong 32 = .ok (.invokestatic 13, 3) := by decide +kernel
theorem dX5_mergedAlong_35 : decode cX5_mergedAlong 35 = .ok (.invokestatic 13, 3) := by decide +kernel
theorem dX5_mergedAlong_38 : decode cX5_mergedAlong 38 = .ok (.iload 6, 2) := by decide +kernel
theorem dX5_mergedAlong_40 : decode cX5_mergedAlong 40 = .ok (.invokestatic 26, 3) := by decide +kernel
theorem dX5_mergedAlong_43 : decode cX5_mergedAlong 43 = .ok (.lstore 7, 2) := by decide +kernel
theorem dX5_mergedAlong_45 : decode cX5_mergedAlong 45 = .ok (.iinc 9 1, 3) := by decide +kernel
theorem dX5_mergedAlong_48 : decode cX5_mergedAlong 48 = .ok (.goto (-42), 3) := by decide +kernel
theorem dX5_mergedAlong_51 : decode cX5_mergedAlong 51 = .ok (.lload 7, 2) := by decide +kernel
theorem dX5_mergedAlong_53 : decode cX5_mergedAlong 53 = .ok (.lreturn, 1) := by decide +kernel
theorem dX5_ledTogether_0 : decode cX5_ledTogether 0 = .ok (.iload_n 1, 1) := by decide +kernel
theorem dX5_ledTogether_1 : decode cX5_ledTogether 1 = .ok (.invokestatic 30, 3) := by decide +kernel
theorem dX5_ledTogether_4 : decode cX5_ledTogether 4 = .ok (.lstore_n 2, 1) := by decide +kernel
theorem dX5_ledTogether_5 : decode cX5_ledTogether 5 = .ok (.iconst 0, 1) := by decide +kernel
theorem dX5_ledTogether_6 : decode cX5_ledTogether 6 = .ok (.istore 4, 2) := by decide +kernel
theorem dX5_ledTogether_8 : decode cX5_ledTogether 8 = .ok (.iload 4, 2) := by decide +kernel
theorem dX5_ledTogether_10 : decode cX5_ledTogether 10 = .ok (.aload_n 0, 1) := by decide +kernel
theorem dX5_ledTogether_11 : decode cX5_ledTogether 11 = .ok (.arraylength, 1) := by decide +kernel
theorem dX5_ledTogether_12 : decode cX5_ledTogether 12 = .ok (.if_icmp .ge 23, 3) := by decide +kernel
theorem dX5_ledTogether_15 : decode cX5_ledTogether 15 = .ok (.lload_n 2, 1) := by decide +kernel
theorem dX5_ledTogether_16 : decode cX5_ledTogether 16 = .ok (.iload_n 1, 1) := by decide +kernel
theorem dX5_ledTogether_17 : decode cX5_ledTogether 17 = .ok (.invokestatic 30, 3) := by decide +kernel
theorem dX5_ledTogether_20 : decode cX5_ledTogether 20 = .ok (.aload_n 0, 1) := by decide +kernel
theorem dX5_ledTogether_21 : decode cX5_ledTogether 21 = .ok (.iload 4, 2) := by decide +kernel
theorem dX5_ledTogether_23 : decode cX5_ledTogether 23 = .ok (.laload, 1) := by decide +kernel
theorem dX5_ledTogether_24 : decode cX5_ledTogether 24 = .ok (.iload_n 1, 1) := by decide +kernel
theorem dX5_ledTogether_25 : decode cX5_ledTogether 25 = .ok (.invokestatic 34, 3) := by decide +kernel
theorem dX5_ledTogether_28 : decode cX5_ledTogether 28 = .ok (.lstore_n 2, 1) := by decide +kernel
theorem dX5_ledTogether_29 : decode cX5_ledTogether 29 = .ok (.iinc 4 1, 3) := by decide +kernel
theorem dX5_ledTogether_32 : decode cX5_ledTogether 32 = .ok (.goto (-24), 3) := by decide +kernel
theorem dX5_ledTogether_35 : decode cX5_ledTogether 35 = .ok (.lload_n 2, 1) := by decide +kernel
theorem dX5_ledTogether_36 : decode cX5_ledTogether 36 = .ok (.lreturn, 1) := by decide +kernel
theorem dX5_leaders_0 : decode cX5_leaders 0 = .ok (.iconst 0, 1) := by decide +kernel
theorem dX5_leaders_1 : decode cX5_leaders 1 = .ok (.istore_n 3, 1) := by decide +kernel
theorem dX5_leaders_2 : decode cX5_leaders 2 = .ok (.iconst 0, 1) := by decide +kernel
theorem dX5_leaders_3 : decode cX5_leaders 3 = .ok (.istore 4, 2) := by decide +kernel
theorem dX5_leaders_5 : decode cX5_leaders 5 = .ok (.iload 4, 2) := by decide +kernel
theorem dX5_leaders_7 : decode cX5_leaders 7 = .ok (.iload_n 2, 1) := by decide +kernel
theorem dX5_leaders_8 : decode cX5_leaders 8 = .ok (.if_icmp .ge 27, 3) := by decide +kernel
theorem dX5_leaders_11 : decode cX5_leaders 11 = .ok (.lload_n 0, 1) := by decide +kernel
theorem dX5_leaders_12 : decode cX5_leaders 12 = .ok (.iload 4, 2) := by decide +kernel
theorem dX5_leaders_14 : decode cX5_leaders 14 = .ok (.invokestatic 13, 3) := by decide +kernel
theorem dX5_leaders_17 : decode cX5_leaders 17 = .ok (.iload 4, 2) := by decide +kernel
theorem dX5_leaders_19 : decode cX5_leaders 19 = .ok (.if_icmp .ne 10, 3) := by decide +kernel
theorem dX5_leaders_22 : decode cX5_leaders 22 = .ok (.iload_n 3, 1) := by decide +kernel
theorem dX5_leaders_23 : decode cX5_leaders 23 = .ok (.iconst 1, 1) := by decide +kernel
theorem dX5_leaders_24 : decode cX5_leaders 24 = .ok (.iload 4, 2) := by decide +kernel
theorem dX5_leaders_26 : decode cX5_leaders 26 = .ok (.ishl, 1) := by decide +kernel
theorem dX5_leaders_27 : decode cX5_leaders 27 = .ok (.ior, 1) := by decide +kernel
theorem dX5_leaders_28 : decode cX5_leaders 28 = .ok (.istore_n 3, 1) := by decide +kernel
theorem dX5_leaders_29 : decode cX5_leaders 29 = .ok (.iinc 4 1, 3) := by decide +kernel
theorem dX5_leaders_32 : decode cX5_leaders 32 = .ok (.goto (-27), 3) := by decide +kernel
theorem dX5_leaders_35 : decode cX5_leaders 35 = .ok (.iload_n 3, 1) := by decide +kernel
theorem dX5_leaders_36 : decode cX5_leaders 36 = .ok (.ireturn, 1) := by decide +kernel
theorem dX5_groups_0 : decode cX5_groups 0 = .ok (.lload_n 0, 1) := by decide +kernel
theorem dX5_groups_1 : decode cX5_groups 1 = .ok (.iload_n 2, 1) := by decide +kernel
theorem dX5_groups_2 : decode cX5_groups 2 = .ok (.invokestatic 38, 3) := by decide +kernel
theorem dX5_groups_5 : decode cX5_groups 5 = .ok (.invokestatic 41, 3) := by decide +kernel
theorem dX5_groups_8 : decode cX5_groups 8 = .ok (.ireturn, 1) := by decide +kernel
theorem dX5_withFirst_0 : decode cX5_withFirst 0 = .ok (.iconst 0, 1) := by decide +kernel
theorem dX5_withFirst_1 : decode cX5_withFirst 1 = .ok (.istore_n 3, 1) := by decide +kernel
theorem dX5_withFirst_2 : decode cX5_withFirst 2 = .ok (.iconst 0, 1) := by decide +kernel
theorem dX5_withFirst_3 : decode cX5_withFirst 3 = .ok (.istore 4, 2) := by decide +kernel
theorem dX5_withFirst_5 : decode cX5_withFirst 5 = .ok (.iload 4, 2) := by decide +kernel
theorem dX5_withFirst_7 : decode cX5_withFirst 7 = .ok (.iload_n 2, 1) := by decide +kernel
theorem dX5_withFirst_8 : decode cX5_withFirst 8 = .ok (.if_icmp .ge 21, 3) := by decide +kernel
theorem dX5_withFirst_11 : decode cX5_withFirst 11 = .ok (.lload_n 0, 1) := by decide +kernel
theorem dX5_withFirst_12 : decode cX5_withFirst 12 = .ok (.iload 4, 2) := by decide +kernel
theorem dX5_withFirst_14 : decode cX5_withFirst 14 = .ok (.invokestatic 13, 3) := by decide +kernel
theorem dX5_withFirst_17 : decode cX5_withFirst 17 = .ok (.ifCond .ne 6, 3) := by decide +kernel
theorem dX5_withFirst_20 : decode cX5_withFirst 20 = .ok (.iinc 3 1, 3) := by decide +kernel
theorem dX5_withFirst_23 : decode cX5_withFirst 23 = .ok (.iinc 4 1, 3) := by decide +kernel
theorem dX5_withFirst_26 : decode cX5_withFirst 26 = .ok (.goto (-21), 3) := by decide +kernel
theorem dX5_withFirst_29 : decode cX5_withFirst 29 = .ok (.iload_n 3, 1) := by decide +kernel
theorem dX5_withFirst_30 : decode cX5_withFirst 30 = .ok (.ireturn, 1) := by decide +kernel
theorem dX5_leadForward_0 : decode cX5_leadForward 0 = .ok (.iload_n 1, 1) := by decide +kernel
theorem dX5_leadForward_1 : decode cX5_leadForward 1 = .ok (.ifCond .lt 11, 3) := by decide +kernel
theorem dX5_leadForward_4 : decode cX5_leadForward 4 = .ok (.iload_n 1, 1) := by decide +kernel
theorem dX5_leadForward_5 : decode cX5_leadForward 5 = .ok (.aload_n 0, 1) := by decide +kernel
theorem dX5_leadForward_6 : decode cX5_leadForward 6 = .ok (.arraylength, 1) := by decide +kernel
theorem dX5_leadForward_7 : decode cX5_leadForward 7 = .ok (.iconst 1, 1) := by decide +kernel
theorem dX5_leadForward_8 : decode cX5_leadForward 8 = .ok (.isub, 1) := by decide +kernel
theorem dX5_leadForward_9 : decode cX5_leadForward 9 = .ok (.if_icmp .lt 4, 3) := by decide +kernel
theorem dX5_leadForward_12 : decode cX5_leadForward 12 = .ok (.return_, 1) := by decide +kernel
theorem dX5_leadForward_13 : decode cX5_leadForward 13 = .ok (.aload_n 0, 1) := by decide +kernel
theorem dX5_leadForward_14 : decode cX5_leadForward 14 = .ok (.iload_n 1, 1) := by decide +kernel
theorem dX5_leadForward_15 : decode cX5_leadForward 15 = .ok (.laload, 1) := by decide +kernel
theorem dX5_leadForward_16 : decode cX5_leadForward 16 = .ok (.lstore_n 3, 1) := by decide +kernel
theorem dX5_leadForward_17 : decode cX5_leadForward 17 = .ok (.aload_n 0, 1) := by decide +kernel
theorem dX5_leadForward_18 : decode cX5_leadForward 18 = .ok (.iload_n 1, 1) := by decide +kernel
theorem dX5_leadForward_19 : decode cX5_leadForward 19 = .ok (.iconst 1, 1) := by decide +kernel
theorem dX5_leadForward_20 : decode cX5_leadForward 20 = .ok (.iadd, 1) := by decide +kernel
theorem dX5_leadForward_21 : decode cX5_leadForward 21 = .ok (.laload, 1) := by decide +kernel
theorem dX5_leadForward_22 : decode cX5_leadForward 22 = .ok (.lstore 5, 2) := by decide +kernel
theorem dX5_leadForward_24 : decode cX5_leadForward 24 = .ok (.aload_n 0, 1) := by decide +kernel
theorem dX5_leadForward_25 : decode cX5_leadForward 25 = .ok (.iload_n 1, 1) := by decide +kernel
theorem dX5_leadForward_26 : decode cX5_leadForward 26 = .ok (.lload 5, 2) := by decide +kernel
theorem dX5_leadForward_28 : decode cX5_leadForward 28 = .ok (.lastore, 1) := by decide +kernel
theorem dX5_leadForward_29 : decode cX5_leadForward 29 = .ok (.aload_n 0, 1) := by decide +kernel
theorem dX5_leadForward_30 : decode cX5_leadForward 30 = .ok (.iload_n 1, 1) := by decide +kernel
theorem dX5_leadForward_31 : decode cX5_leadForward 31 = .ok (.iconst 1, 1) := by decide +kernel
theorem dX5_leadForward_32 : decode cX5_leadForward 32 = .ok (.iadd, 1) := by decide +kernel
theorem dX5_leadForward_33 : decode cX5_leadForward 33 = .ok (.lload 5, 2) := by decide +kernel
theorem dX5_leadForward_35 : decode cX5_leadForward 35 = .ok (.iload_n 2, 1) := by decide +kernel
theorem dX5_leadForward_36 : decode cX5_leadForward 36 = .ok (.invokestatic 47, 3) := by decide +kernel
theorem dX5_leadForward_39 : decode cX5_leadForward 39 = .ok (.lload_n 3, 1) := by decide +kernel
theorem dX5_leadForward_40 : decode cX5_leadForward 40 = .ok (.iload_n 2, 1) := by decide +kernel
theorem dX5_leadForward_41 : decode cX5_leadForward 41 = .ok (.invokestatic 51, 3) := by decide +kernel
theorem dX5_leadForward_44 : decode cX5_leadForward 44 = .ok (.lload 5, 2) := by decide +kernel
theorem dX5_leadForward_46 : decode cX5_leadForward 46 = .ok (.iload_n 2, 1) := by decide +kernel
theorem dX5_leadForward_47 : decode cX5_leadForward 47 = .ok (.invokestatic 51, 3) := by decide +kernel
theorem dX5_leadForward_50 : decode cX5_leadForward 50 = .ok (.lastore, 1) := by decide +kernel
theorem dX5_leadForward_51 : decode cX5_leadForward 51 = .ok (.return_, 1) := by decide +kernel
theorem dX5_leadBack_0 : decode cX5_leadBack 0 = .ok (.iload_n 1, 1) := by decide +kernel
theorem dX5_leadBack_1 : decode cX5_leadBack 1 = .ok (.ifCond .lt 11, 3) := by decide +kernel
theorem dX5_leadBack_4 : decode cX5_leadBack 4 = .ok (.iload_n 1, 1) := by decide +kernel
theorem dX5_leadBack_5 : decode cX5_leadBack 5 = .ok (.aload_n 0, 1) := by decide +kernel
theorem dX5_leadBack_6 : decode cX5_leadBack 6 = .ok (.arraylength, 1) := by decide +kernel
theorem dX5_leadBack_7 : decode cX5_leadBack 7 = .ok (.iconst 1, 1) := by decide +kernel
theorem dX5_leadBack_8 : decode cX5_leadBack 8 = .ok (.isub, 1) := by decide +kernel
theorem dX5_leadBack_9 : decode cX5_leadBack 9 = .ok (.if_icmp .lt 4, 3) := by decide +kernel
theorem dX5_leadBack_12 : decode cX5_leadBack 12 = .ok (.return_, 1) := by decide +kernel
theorem dX5_leadBack_13 : decode cX5_leadBack 13 = .ok (.aload_n 0, 1) := by decide +kernel
theorem dX5_leadBack_14 : decode cX5_leadBack 14 = .ok (.iload_n 1, 1) := by decide +kernel
theorem dX5_leadBack_15 : decode cX5_leadBack 15 = .ok (.laload, 1) := by decide +kernel
theorem dX5_leadBack_16 : decode cX5_leadBack 16 = .ok (.lstore_n 3, 1) := by decide +kernel
theorem dX5_leadBack_17 : decode cX5_leadBack 17 = .ok (.aload_n 0, 1) := by decide +kernel
theorem dX5_leadBack_18 : decode cX5_leadBack 18 = .ok (.iload_n 1, 1) := by decide +kernel
theorem dX5_leadBack_19 : decode cX5_leadBack 19 = .ok (.iconst 1, 1) := by decide +kernel
theorem dX5_leadBack_20 : decode cX5_leadBack 20 = .ok (.iadd, 1) := by decide +kernel
theorem dX5_leadBack_21 : decode cX5_leadBack 21 = .ok (.laload, 1) := by decide +kernel
theorem dX5_leadBack_22 : decode cX5_leadBack 22 = .ok (.lstore 5, 2) := by decide +kernel
theorem dX5_leadBack_24 : decode cX5_leadBack 24 = .ok (.aload_n 0, 1) := by decide +kernel
theorem dX5_leadBack_25 : decode cX5_leadBack 25 = .ok (.iload_n 1, 1) := by decide +kernel
theorem dX5_leadBack_26 : decode cX5_leadBack 26 = .ok (.iconst 1, 1) := by decide +kernel
theorem dX5_leadBack_27 : decode cX5_leadBack 27 = .ok (.iadd, 1) := by decide +kernel
theorem dX5_leadBack_28 : decode cX5_leadBack 28 = .ok (.lload_n 3, 1) := by decide +kernel
theorem dX5_leadBack_29 : decode cX5_leadBack 29 = .ok (.lastore, 1) := by decide +kernel
theorem dX5_leadBack_30 : decode cX5_leadBack 30 = .ok (.aload_n 0, 1) := by decide +kernel
theorem dX5_leadBack_31 : decode cX5_leadBack 31 = .ok (.iload_n 1, 1) := by decide +kernel
theorem dX5_leadBack_32 : decode cX5_leadBack 32 = .ok (.lload_n 3, 1) := by decide +kernel
theorem dX5_leadBack_33 : decode cX5_leadBack 33 = .ok (.lload 5, 2) := by decide +kernel
theorem dX5_leadBack_35 : decode cX5_leadBack 35 = .ok (.iload_n 2, 1) := by decide +kernel
theorem dX5_leadBack_36 : decode cX5_leadBack 36 = .ok (.invokestatic 51, 3) := by decide +kernel
theorem dX5_leadBack_39 : decode cX5_leadBack 39 = .ok (.lload_n 3, 1) := by decide +kernel
theorem dX5_leadBack_40 : decode cX5_leadBack 40 = .ok (.iload_n 2, 1) := by decide +kernel
theorem dX5_leadBack_41 : decode cX5_leadBack 41 = .ok (.invokestatic 47, 3) := by decide +kernel
theorem dX5_leadBack_44 : decode cX5_leadBack 44 = .ok (.iload_n 2, 1) := by decide +kernel
theorem dX5_leadBack_45 : decode cX5_leadBack 45 = .ok (.invokestatic 51, 3) := by decide +kernel
theorem dX5_leadBack_48 : decode cX5_leadBack 48 = .ok (.lastore, 1) := by decide +kernel
theorem dX5_leadBack_49 : decode cX5_leadBack 49 = .ok (.return_, 1) := by decide +kernel
theorem dX6_init_0 : decode cX6_init 0 = .ok (.aload_n 0, 1) := by decide +kernel
theorem dX6_init_1 : decode cX6_init 1 = .ok (.invokespecial 3, 3) := by decide +kernel
theorem dX6_init_4 : decode cX6_init 4 = .ok (.aload_n 0, 1) := by decide +kernel
theorem dX6_init_5 : decode cX6_init 5 = .ok (.new 9, 3) := by decide +kernel
theorem dX6_init_8 : decode cX6_init 8 = .ok (.dup, 1) := by decide +kernel
theorem dX6_init_9 : decode cX6_init 9 = .ok (.invokespecial 11, 3) := by decide +kernel
theorem dX6_init_12 : decode cX6_init 12 = .ok (.putfield 12, 3) := by decide +kernel
theorem dX6_init_15 : decode cX6_init 15 = .ok (.aload_n 0, 1) := by decide +kernel
theorem dX6_init_16 : decode cX6_init 16 = .ok (.sipush 2400, 3) := by decide +kernel
theorem dX6_init_19 : decode cX6_init 19 = .ok (.newarray .long, 2) := by decide +kernel
theorem dX6_init_21 : decode cX6_init 21 = .ok (.putfield 18, 3) := by decide +kernel
theorem dX6_init_24 : decode cX6_init 24 = .ok (.return_, 1) := by decide +kernel
theorem dX6_walk_0 : decode cX6_walk 0 = .ok (.aload_n 1, 1) := by decide +kernel
theorem dX6_walk_1 : decode cX6_walk 1 = .ok (.getfield 22, 3) := by decide +kernel
theorem dX6_walk_4 : decode cX6_walk 4 = .ok (.arraylength, 1) := by decide +kernel
theorem dX6_walk_5 : decode cX6_walk 5 = .ok (.istore_n 2, 1) := by decide +kernel
theorem dX6_walk_6 : decode cX6_walk 6 = .ok (.iload_n 2, 1) := by decide +kernel
theorem dX6_walk_7 : decode cX6_walk 7 = .ok (.newarray .long, 2) := by decide +kernel
theorem dX6_walk_9 : decode cX6_walk 9 = .ok (.astore_n 3, 1) := by decide +kernel
theorem dX6_walk_10 : decode cX6_walk 10 = .ok (.aload_n 0, 1) := by decide +kernel
theorem dX6_walk_11 : decode cX6_walk 11 = .ok (.iconst 0, 1) := by decide +kernel
theorem dX6_walk_12 : decode cX6_walk 12 = .ok (.putfield 27, 3) := by decide +kernel
theorem dX6_walk_15 : decode cX6_walk 15 = .ok (.aload_n 0, 1) := by decide +kernel
theorem dX6_walk_16 : decode cX6_walk 16 = .ok (.getfield 12, 3) := by decide +kernel
theorem dX6_walk_19 : decode cX6_walk 19 = .ok (.aload_n 1, 1) := by decide +kernel
theorem dX6_walk_20 : decode cX6_walk 20 = .ok (.getfield 22, 3) := by decide +kernel
theorem dX6_walk_23 : decode cX6_walk 23 = .ok (.aload_n 1, 1) := by decide +kernel
theorem dX6_walk_24 : decode cX6_walk 24 = .ok (.getfield 31, 3) := by decide +kernel
theorem dX6_walk_27 : decode cX6_walk 27 = .ok (.invokevirtual 34, 3) := by decide +kernel
theorem dX6_walk_30 : decode cX6_walk 30 = .ok (.aload_n 0, 1) := by decide +kernel
theorem dX6_walk_31 : decode cX6_walk 31 = .ok (.iload_n 2, 1) := by decide +kernel
theorem dX6_walk_32 : decode cX6_walk 32 = .ok (.invokevirtual 38, 3) := by decide +kernel
theorem dX6_walk_35 : decode cX6_walk 35 = .ok (.iconst 0, 1) := by decide +kernel
theorem dX6_walk_36 : decode cX6_walk 36 = .ok (.istore 4, 2) := by decide +kernel
theorem dX6_walk_38 : decode cX6_walk 38 = .ok (.iload 4, 2) := by decide +kernel
theorem dX6_walk_40 : decode cX6_walk 40 = .ok (.aload_n 0, 1) := by decide +kernel
theorem dX6_walk_41 : decode cX6_walk 41 = .ok (.getfield 27, 3) := by decide +kernel
theorem dX6_walk_44 : decode cX6_walk 44 = .ok (.if_icmp .ge 99, 3) := by decide +kernel
theorem dX6_walk_47 : decode cX6_walk 47 = .ok (.iload 4, 2) := by decide +kernel
theorem dX6_walk_49 : decode cX6_walk 49 = .ok (.sipush 300, 3) := by decide +kernel
theorem dX6_walk_52 : decode cX6_walk 52 = .ok (.if_icmp .ge 91, 3) := by decide +kernel
theorem dX6_walk_55 : decode cX6_walk 55 = .ok (.iconst 0, 1) := by decide +kernel
theorem dX6_walk_56 : decode cX6_walk 56 = .ok (.istore 5, 2) := by decide +kernel
theorem dX6_walk_58 : decode cX6_walk 58 = .ok (.iload 5, 2) := by decide +kernel
theorem dX6_walk_60 : decode cX6_walk 60 = .ok (.iload_n 2, 1) := by decide +kernel
theorem dX6_walk_61 : decode cX6_walk 61 = .ok (.iconst 1, 1) := by decide +kernel
theorem dX6_walk_62 : decode cX6_walk 62 = .ok (.isub, 1) := by decide +kernel
theorem dX6_walk_63 : decode cX6_walk 63 = .ok (.if_icmp .ge 74, 3) := by decide +kernel
theorem dX6_walk_66 : decode cX6_walk 66 = .ok (.aload_n 0, 1) := by decide +kernel
theorem dX6_walk_67 : decode cX6_walk 67 = .ok (.getfield 18, 3) := by decide +kernel
theorem dX6_walk_70 : decode cX6_walk 70 = .ok (.iload 4, 2) := by decide +kernel
theorem dX6_walk_72 : decode cX6_walk 72 = .ok (.bipush 8, 2) := by decide +kernel
theorem dX6_walk_74 : decode cX6_walk 74 = .ok (.imul, 1) := by decide +kernel
theorem dX6_walk_75 : decode cX6_walk 75 = .ok (.aload_n 3, 1) := by decide +kernel
theorem dX6_walk_76 : decode cX6_walk 76 = .ok (.iconst 0, 1) := by decide +kernel
theorem dX6_walk_77 : decode cX6_walk 77 = .ok (.iload_n 2, 1) := by decide +kernel
theorem dX6_walk_78 : decode cX6_walk 78 = .ok (.invokestatic 42, 3) := by decide +kernel
theorem dX6_walk_81 : decode cX6_walk 81 = .ok (.aload_n 3, 1) := by decide +kernel
theorem dX6_walk_82 : decode cX6_walk 82 = .ok (.iload 5, 2) := by decide +kernel
theorem dX6_walk_84 : decode cX6_walk 84 = .ok (.aload_n 1, 1) := by decide +kernel
theorem dX6_walk_85 : decode cX6_walk 85 = .ok (.getfield 31, 3) := by decide +kernel
theorem dX6_walk_88 : decode cX6_walk 88 = .ok (.invokestatic 48, 3) := by decide +kernel
theorem dX6_walk_91 : decode cX6_walk 91 = .ok (.aload_n 0, 1) := by decide +kernel
theorem dX6_walk_92 : decode cX6_walk 92 = .ok (.getfield 12, 3) := by decide +kernel
theorem dX6_walk_95 : decode cX6_walk 95 = .ok (.aload_n 3, 1) := by decide +kernel
theorem dX6_walk_96 : decode cX6_walk 96 = .ok (.aload_n 1, 1) := by decide +kernel
theorem dX6_walk_97 : decode cX6_walk 97 = .ok (.getfield 31, 3) := by decide +kernel
theorem dX6_walk_100 : decode cX6_walk 100 = .ok (.invokevirtual 34, 3) := by decide +kernel
theorem dX6_walk_103 : decode cX6_walk 103 = .ok (.aload_n 0, 1) := by decide +kernel
theorem dX6_walk_104 : decode cX6_walk 104 = .ok (.iload_n 2, 1) := by decide +kernel
theorem dX6_walk_105 : decode cX6_walk 105 = .ok (.invokevirtual 54, 3) := by decide +kernel
theorem dX6_walk_108 : decode cX6_walk 108 = .ok (.ifCond .eq 6, 3) := by decide +kernel
theorem dX6_walk_111 : decode cX6_walk 111 = .ok (.goto 20, 3) := by decide +kernel
theorem dX6_walk_114 : decode cX6_walk 114 = .ok (.aload_n 0, 1) := by decide +kernel
theorem dX6_walk_115 : decode cX6_walk 115 = .ok (.getfield 27, 3) := by decide +kernel
theorem dX6_walk_118 : decode cX6_walk 118 = .ok (.sipush 300, 3) := by decide +kernel
theorem dX6_walk_121 : decode cX6_walk 121 = .ok (.if_icmp .lt 5, 3) := by decide +kernel
theorem dX6_walk_124 : decode cX6_walk 124 = .ok (.iconst (-1), 1) := by decide +kernel
theorem dX6_walk_125 : decode cX6_walk 125 = .ok (.ireturn, 1) := by decide +kernel
theorem dX6_walk_126 : decode cX6_walk 126 = .ok (.aload_n 0, 1) := by decide +kernel
theorem dX6_walk_127 : decode cX6_walk 127 = .ok (.iload_n 2, 1) := by decide +kernel
theorem dX6_walk_128 : decode cX6_walk 128 = .ok (.invokevirtual 38, 3) := by decide +kernel
theorem dX6_walk_131 : decode cX6_walk 131 = .ok (.iinc 5 1, 3) := by decide +kernel
theorem dX6_walk_134 : decode cX6_walk 134 = .ok (.goto (-76), 3) := by decide +kernel
theorem dX6_walk_137 : decode cX6_walk 137 = .ok (.iinc 4 1, 3) := by decide +kernel
theorem dX6_walk_140 : decode cX6_walk 140 = .ok (.goto (-102), 3) := by decide +kernel
theorem dX6_walk_143 : decode cX6_walk 143 = .ok (.aload_n 0, 1) := by decide +kernel
theorem dX6_walk_144 : decode cX6_walk 144 = .ok (.getfield 27, 3) := by decide +kernel
theorem dX6_walk_147 : decode cX6_walk 147 = .ok (.ireturn, 1) := by decide +kernel
theorem dX6_keep_0 : decode cX6_keep 0 = .ok (.aload_n 0, 1) := by decide +kernel
theorem dX6_keep_1 : decode cX6_keep 1 = .ok (.getfield 27, 3) := by decide +kernel
theorem dX6_keep_4 : decode cX6_keep 4 = .ok (.sipush 300, 3) := by decide +kernel
theorem dX6_keep_7 : decode cX6_keep 7 = .ok (.if_icmp .ge 42, 3) := by decide +kernel
theorem dX6_keep_10 : decode cX6_keep 10 = .ok (.iload_n 1, 1) := by decide +kernel
theorem dX6_keep_11 : decode cX6_keep 11 = .ok (.bipush 8, 2) := by decide +kernel
theorem dX6_keep_13 : decode cX6_keep 13 = .ok (.if_icmp .gt 36, 3) := by decide +kernel
theorem dX6_keep_16 : decode cX6_keep 16 = .ok (.aload_n 0, 1) := by decide +kernel
theorem dX6_keep_17 : decode cX6_keep 17 = .ok (.getfield 12, 3) := by decide +kernel
theorem dX6_keep_20 : decode cX6_keep 20 = .ok (.getfield 58, 3) := by decide +kernel
theorem dX6_keep_23 : decode cX6_keep 23 = .ok (.iconst 0, 1) := by decide +kernel
theorem dX6_keep_24 : decode cX6_keep 24 = .ok (.aload_n 0, 1) := by decide +kernel
theorem dX6_keep_25 : decode cX6_keep 25 = .ok (.getfield 18, 3) := by decide +kernel
theorem dX6_keep_28 : decode cX6_keep 28 = .ok (.aload_n 0, 1) := by decide +kernel
theorem dX6_keep_29 : decode cX6_keep 29 = .ok (.getfield 27, 3) := by decide +kernel
theorem dX6_keep_32 : decode cX6_keep 32 = .ok (.bipush 8, 2) := by decide +kernel
theorem dX6_keep_34 : decode cX6_keep 34 = .ok (.imul, 1) := by decide +kernel
theorem dX6_keep_35 : decode cX6_keep 35 = .ok (.iload_n 1, 1) := by decide +kernel
theorem dX6_keep_36 : decode cX6_keep 36 = .ok (.invokestatic 42, 3) := by decide +kernel
theorem dX6_keep_39 : decode cX6_keep 39 = .ok (.aload_n 0, 1) := by decide +kernel
theorem dX6_keep_40 : decode cX6_keep 40 = .ok (.dup, 1) := by decide +kernel
theorem dX6_keep_41 : decode cX6_keep 41 = .ok (.getfield 27, 3) := by decide +kernel
theorem dX6_keep_44 : decode cX6_keep 44 = .ok (.iconst 1, 1) := by decide +kernel
theorem dX6_keep_45 : decode cX6_keep 45 = .ok (.iadd, 1) := by decide +kernel
theorem dX6_keep_46 : decode cX6_keep 46 = .ok (.putfield 27, 3) := by decide +kernel
theorem dX6_keep_49 : decode cX6_keep 49 = .ok (.return_, 1) := by decide +kernel
theorem dX6_known_0 : decode cX6_known 0 = .ok (.iconst 0, 1) := by decide +kernel
theorem dX6_known_1 : decode cX6_known 1 = .ok (.istore_n 2, 1) := by decide +kernel
theorem dX6_known_2 : decode cX6_known 2 = .ok (.iload_n 2, 1) := by decide +kernel
theorem dX6_known_3 : decode cX6_known 3 = .ok (.aload_n 0, 1) := by decide +kernel
theorem dX6_known_4 : decode cX6_known 4 = .ok (.getfield 27, 3) := by decide +kernel
theorem dX6_known_7 : decode cX6_known 7 = .ok (.if_icmp .ge 23, 3) := by decide +kernel
theorem dX6_known_10 : decode cX6_known 10 = .ok (.aload_n 0, 1) := by decide +kernel
theorem dX6_known_11 : decode cX6_known 11 = .ok (.iload_n 2, 1) := by decide +kernel
theorem dX6_known_12 : decode cX6_known 12 = .ok (.bipush 8, 2) := by decide +kernel
theorem dX6_known_14 : decode cX6_known 14 = .ok (.imul, 1) := by decide +kernel
theorem dX6_known_15 : decode cX6_known 15 = .ok (.iload_n 1, 1) := by decide +kernel
theorem dX6_known_16 : decode cX6_known 16 = .ok (.invokevirtual 61, 3) := by decide +kernel
theorem dX6_known_19 : decode cX6_known 19 = .ok (.ifCond .eq 5, 3) := by decide +kernel
theorem dX6_known_22 : decode cX6_known 22 = .ok (.iconst 1, 1) := by decide +kernel
theorem dX6_known_23 : decode cX6_known 23 = .ok (.ireturn, 1) := by decide +kernel
theorem dX6_known_24 : decode cX6_known 24 = .ok (.iinc 2 1, 3) := by decide +kernel
theorem dX6_known_27 : decode cX6_known 27 = .ok (.goto (-25), 3) := by decide +kernel
theorem dX6_known_30 : decode cX6_known 30 = .ok (.iconst 0, 1) := by decide +kernel
theorem dX6_known_31 : decode cX6_known 31 = .ok (.ireturn, 1) := by decide +kernel
theorem dX6_isLeastAt_0 : decode cX6_isLeastAt 0 = .ok (.iconst 0, 1) := by decide +kernel
theorem dX6_isLeastAt_1 : decode cX6_isLeastAt 1 = .ok (.istore_n 3, 1) := by decide +kernel
theorem dX6_isLeastAt_2 : decode cX6_isLeastAt 2 = .ok (.iload_n 3, 1) := by decide +kernel
theorem dX6_isLeastAt_3 : decode cX6_isLeastAt 3 = .ok (.iload_n 2, 1) := by decide +kernel
theorem dX6_isLeastAt_4 : decode cX6_isLeastAt 4 = .ok (.if_icmp .ge 32, 3) := by decide +kernel
theorem dX6_isLeastAt_7 : decode cX6_isLeastAt 7 = .ok (.aload_n 0, 1) := by decide +kernel
theorem dX6_isLeastAt_8 : decode cX6_isLeastAt 8 = .ok (.getfield 18, 3) := by decide +kernel
theorem dX6_isLeastAt_11 : decode cX6_isLeastAt 11 = .ok (.iload_n 1, 1) := by decide +kernel
theorem dX6_isLeastAt_12 : decode cX6_isLeastAt 12 = .ok (.iload_n 3, 1) := by decide +kernel
theorem dX6_isLeastAt_13 : decode cX6_isLeastAt 13 = .ok (.iadd, 1) := by decide +kernel
theorem dX6_isLeastAt_14 : decode cX6_isLeastAt 14 = .ok (.laload, 1) := by decide +kernel
theorem dX6_isLeastAt_15 : decode cX6_isLeastAt 15 = .ok (.aload_n 0, 1) := by decide +kernel
theorem dX6_isLeastAt_16 : decode cX6_isLeastAt 16 = .ok (.getfield 12, 3) := by decide +kernel
theorem dX6_isLeastAt_19 : decode cX6_isLeastAt 19 = .ok (.getfield 58, 3) := by decide +kernel
theorem dX6_isLeastAt_22 : decode cX6_isLeastAt 22 = .ok (.iload_n 3, 1) := by decide +kernel
theorem dX6_isLeastAt_23 : decode cX6_isLeastAt 23 = .ok (.laload, 1) := by decide +kernel
theorem dX6_isLeastAt_24 : decode cX6_isLeastAt 24 = .ok (.lcmp, 1) := by decide +kernel
theorem dX6_isLeastAt_25 : decode cX6_isLeastAt 25 = .ok (.ifCond .eq 5, 3) := by decide +kernel
theorem dX6_isLeastAt_28 : decode cX6_isLeastAt 28 = .ok (.iconst 0, 1) := by decide +kernel
theorem dX6_isLeastAt_29 : decode cX6_isLeastAt 29 = .ok (.ireturn, 1) := by decide +kernel
theorem dX6_isLeastAt_30 : decode cX6_isLeastAt 30 = .ok (.iinc 3 1, 3) := by decide +kernel
theorem dX6_isLeastAt_33 : decode cX6_isLeastAt 33 = .ok (.goto (-31), 3) := by decide +kernel
theorem dX6_isLeastAt_36 : decode cX6_isLeastAt 36 = .ok (.iconst 1, 1) := by decide +kernel
theorem dX6_isLeastAt_37 : decode cX6_isLeastAt 37 = .ok (.ireturn, 1) := by decide +kernel
theorem dX7_init_0 : decode cX7_init 0 = .ok (.aload_n 0, 1) := by decide +kernel
theorem dX7_init_1 : decode cX7_init 1 = .ok (.invokespecial 1, 3) := by decide +kernel
theorem dX7_init_4 : decode cX7_init 4 = .ok (.aload_n 0, 1) := by decide +kernel
