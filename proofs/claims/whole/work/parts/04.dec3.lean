theorem dX11_same_51 : decode cX11_same 51 = .ok (.invokevirtual 65, 3) := by decide +kernel
theorem dX11_same_54 : decode cX11_same 54 = .ok (.ireturn, 1) := by decide +kernel
theorem dX11_same_55 : decode cX11_same 55 = .ok (.aload 4, 2) := by decide +kernel
theorem dX11_same_57 : decode cX11_same 57 = .ok (.ifnonnull 9, 3) := by decide +kernel
theorem dX11_same_60 : decode cX11_same 60 = .ok (.aload_n 0, 1) := by decide +kernel
theorem dX11_same_61 : decode cX11_same 61 = .ok (.iconst 1, 1) := by decide +kernel
theorem dX11_same_62 : decode cX11_same 62 = .ok (.invokevirtual 65, 3) := by decide +kernel
theorem dX11_same_65 : decode cX11_same 65 = .ok (.ireturn, 1) := by decide +kernel
theorem dX11_same_66 : decode cX11_same 66 = .ok (.aload 4, 2) := by decide +kernel
theorem dX11_same_68 : decode cX11_same 68 = .ok (.invokevirtual 136, 3) := by decide +kernel
theorem dX11_same_71 : decode cX11_same 71 = .ok (.ifCond .ne 9, 3) := by decide +kernel
theorem dX11_same_74 : decode cX11_same 74 = .ok (.aload_n 0, 1) := by decide +kernel
theorem dX11_same_75 : decode cX11_same 75 = .ok (.iconst 3, 1) := by decide +kernel
theorem dX11_same_76 : decode cX11_same 76 = .ok (.invokevirtual 65, 3) := by decide +kernel
theorem dX11_same_79 : decode cX11_same 79 = .ok (.ireturn, 1) := by decide +kernel
theorem dX11_same_80 : decode cX11_same 80 = .ok (.aload_n 0, 1) := by decide +kernel
theorem dX11_same_81 : decode cX11_same 81 = .ok (.aload_n 0, 1) := by decide +kernel
theorem dX11_same_82 : decode cX11_same 82 = .ok (.aload_n 3, 1) := by decide +kernel
theorem dX11_same_83 : decode cX11_same 83 = .ok (.aload 4, 2) := by decide +kernel
theorem dX11_same_85 : decode cX11_same 85 = .ok (.invokevirtual 207, 3) := by decide +kernel
theorem dX11_same_88 : decode cX11_same 88 = .ok (.ifCond .eq 7, 3) := by decide +kernel
theorem dX11_same_91 : decode cX11_same 91 = .ok (.iconst 1, 1) := by decide +kernel
theorem dX11_same_92 : decode cX11_same 92 = .ok (.goto 4, 3) := by decide +kernel
theorem dX11_same_95 : decode cX11_same 95 = .ok (.iconst 0, 1) := by decide +kernel
theorem dX11_same_96 : decode cX11_same 96 = .ok (.invokevirtual 69, 3) := by decide +kernel
theorem dX11_same_99 : decode cX11_same 99 = .ok (.ireturn, 1) := by decide +kernel
theorem dX11_ring_0 : decode cX11_ring 0 = .ok (.iload_n 1, 1) := by decide +kernel
theorem dX11_ring_1 : decode cX11_ring 1 = .ok (.invokestatic 98, 3) := by decide +kernel
theorem dX11_ring_4 : decode cX11_ring 4 = .ok (.ifCond .eq 6, 3) := by decide +kernel
theorem dX11_ring_7 : decode cX11_ring 7 = .ok (.ldc 64, 2) := by decide +kernel
theorem dX11_ring_9 : decode cX11_ring 9 = .ok (.ireturn, 1) := by decide +kernel
theorem dX11_ring_10 : decode cX11_ring 10 = .ok (.aload_n 0, 1) := by decide +kernel
theorem dX11_ring_11 : decode cX11_ring 11 = .ok (.getfield 20, 3) := by decide +kernel
theorem dX11_ring_14 : decode cX11_ring 14 = .ok (.iload_n 1, 1) := by decide +kernel
theorem dX11_ring_15 : decode cX11_ring 15 = .ok (.aaload, 1) := by decide +kernel
theorem dX11_ring_16 : decode cX11_ring 16 = .ok (.astore_n 2, 1) := by decide +kernel
theorem dX11_ring_17 : decode cX11_ring 17 = .ok (.aload_n 2, 1) := by decide +kernel
theorem dX11_ring_18 : decode cX11_ring 18 = .ok (.ifnonnull 9, 3) := by decide +kernel
theorem dX11_ring_21 : decode cX11_ring 21 = .ok (.aload_n 0, 1) := by decide +kernel
theorem dX11_ring_22 : decode cX11_ring 22 = .ok (.iconst 1, 1) := by decide +kernel
theorem dX11_ring_23 : decode cX11_ring 23 = .ok (.invokevirtual 65, 3) := by decide +kernel
theorem dX11_ring_26 : decode cX11_ring 26 = .ok (.ireturn, 1) := by decide +kernel
theorem dX11_ring_27 : decode cX11_ring 27 = .ok (.aload_n 2, 1) := by decide +kernel
theorem dX11_ring_28 : decode cX11_ring 28 = .ok (.invokevirtual 136, 3) := by decide +kernel
theorem dX11_ring_31 : decode cX11_ring 31 = .ok (.ifCond .ne 9, 3) := by decide +kernel
theorem dX11_ring_34 : decode cX11_ring 34 = .ok (.aload_n 0, 1) := by decide +kernel
theorem dX11_ring_35 : decode cX11_ring 35 = .ok (.iconst 3, 1) := by decide +kernel
theorem dX11_ring_36 : decode cX11_ring 36 = .ok (.invokevirtual 65, 3) := by decide +kernel
theorem dX11_ring_39 : decode cX11_ring 39 = .ok (.ireturn, 1) := by decide +kernel
theorem dX11_ring_40 : decode cX11_ring 40 = .ok (.aload_n 0, 1) := by decide +kernel
theorem dX11_ring_41 : decode cX11_ring 41 = .ok (.getfield 42, 3) := by decide +kernel
theorem dX11_ring_44 : decode cX11_ring 44 = .ok (.aload_n 2, 1) := by decide +kernel
theorem dX11_ring_45 : decode cX11_ring 45 = .ok (.invokevirtual 211, 3) := by decide +kernel
theorem dX11_ring_48 : decode cX11_ring 48 = .ok (.istore_n 3, 1) := by decide +kernel
theorem dX11_ring_49 : decode cX11_ring 49 = .ok (.iload_n 3, 1) := by decide +kernel
theorem dX11_ring_50 : decode cX11_ring 50 = .ok (.iconst (-1), 1) := by decide +kernel
theorem dX11_ring_51 : decode cX11_ring 51 = .ok (.if_icmp .ne 8, 3) := by decide +kernel
theorem dX11_ring_54 : decode cX11_ring 54 = .ok (.ldc 176, 2) := by decide +kernel
theorem dX11_ring_56 : decode cX11_ring 56 = .ok (.goto 8, 3) := by decide +kernel
theorem dX11_ring_59 : decode cX11_ring 59 = .ok (.aload_n 0, 1) := by decide +kernel
theorem dX11_ring_60 : decode cX11_ring 60 = .ok (.iload_n 3, 1) := by decide +kernel
theorem dX11_ring_61 : decode cX11_ring 61 = .ok (.invokevirtual 69, 3) := by decide +kernel
theorem dX11_ring_64 : decode cX11_ring 64 = .ok (.ireturn, 1) := by decide +kernel
theorem dX11_lift_0 : decode cX11_lift 0 = .ok (.iload_n 1, 1) := by decide +kernel
theorem dX11_lift_1 : decode cX11_lift 1 = .ok (.invokestatic 98, 3) := by decide +kernel
theorem dX11_lift_4 : decode cX11_lift 4 = .ok (.ifCond .ne 22, 3) := by decide +kernel
theorem dX11_lift_7 : decode cX11_lift 7 = .ok (.iload_n 2, 1) := by decide +kernel
theorem dX11_lift_8 : decode cX11_lift 8 = .ok (.invokestatic 60, 3) := by decide +kernel
theorem dX11_lift_11 : decode cX11_lift 11 = .ok (.ifCond .ne 15, 3) := by decide +kernel
theorem dX11_lift_14 : decode cX11_lift 14 = .ok (.iload 4, 2) := by decide +kernel
theorem dX11_lift_16 : decode cX11_lift 16 = .ok (.ifCond .lt 10, 3) := by decide +kernel
theorem dX11_lift_19 : decode cX11_lift 19 = .ok (.iload 4, 2) := by decide +kernel
theorem dX11_lift_21 : decode cX11_lift 21 = .ok (.bipush 96, 2) := by decide +kernel
theorem dX11_lift_23 : decode cX11_lift 23 = .ok (.if_icmp .le 6, 3) := by decide +kernel
theorem dX11_lift_26 : decode cX11_lift 26 = .ok (.ldc 64, 2) := by decide +kernel
theorem dX11_lift_28 : decode cX11_lift 28 = .ok (.ireturn, 1) := by decide +kernel
theorem dX11_lift_29 : decode cX11_lift 29 = .ok (.aload_n 0, 1) := by decide +kernel
theorem dX11_lift_30 : decode cX11_lift 30 = .ok (.getfield 20, 3) := by decide +kernel
theorem dX11_lift_33 : decode cX11_lift 33 = .ok (.iload_n 1, 1) := by decide +kernel
theorem dX11_lift_34 : decode cX11_lift 34 = .ok (.aaload, 1) := by decide +kernel
theorem dX11_lift_35 : decode cX11_lift 35 = .ok (.astore 6, 2) := by decide +kernel
theorem dX11_lift_37 : decode cX11_lift 37 = .ok (.aload_n 0, 1) := by decide +kernel
theorem dX11_lift_38 : decode cX11_lift 38 = .ok (.getfield 11, 3) := by decide +kernel
theorem dX11_lift_41 : decode cX11_lift 41 = .ok (.iload_n 2, 1) := by decide +kernel
theorem dX11_lift_42 : decode cX11_lift 42 = .ok (.aaload, 1) := by decide +kernel
theorem dX11_lift_43 : decode cX11_lift 43 = .ok (.astore 7, 2) := by decide +kernel
theorem dX11_lift_45 : decode cX11_lift 45 = .ok (.aload 6, 2) := by decide +kernel
theorem dX11_lift_47 : decode cX11_lift 47 = .ok (.ifnull 11, 3) := by decide +kernel
theorem dX11_lift_50 : decode cX11_lift 50 = .ok (.aload 7, 2) := by decide +kernel
theorem dX11_lift_52 : decode cX11_lift 52 = .ok (.invokevirtual 72, 3) := by decide +kernel
theorem dX11_lift_55 : decode cX11_lift 55 = .ok (.ifCond .eq 9, 3) := by decide +kernel
theorem dX11_lift_58 : decode cX11_lift 58 = .ok (.aload_n 0, 1) := by decide +kernel
theorem dX11_lift_59 : decode cX11_lift 59 = .ok (.iconst 1, 1) := by decide +kernel
theorem dX11_lift_60 : decode cX11_lift 60 = .ok (.invokevirtual 65, 3) := by decide +kernel
theorem dX11_lift_63 : decode cX11_lift 63 = .ok (.ireturn, 1) := by decide +kernel
theorem dX11_lift_64 : decode cX11_lift 64 = .ok (.aload 7, 2) := by decide +kernel
theorem dX11_lift_66 : decode cX11_lift 66 = .ok (.iload_n 3, 1) := by decide +kernel
theorem dX11_lift_67 : decode cX11_lift 67 = .ok (.iload 4, 2) := by decide +kernel
theorem dX11_lift_69 : decode cX11_lift 69 = .ok (.invokevirtual 76, 3) := by decide +kernel
theorem dX11_lift_72 : decode cX11_lift 72 = .ok (.ifCond .ne 9, 3) := by decide +kernel
theorem dX11_lift_75 : decode cX11_lift 75 = .ok (.aload_n 0, 1) := by decide +kernel
theorem dX11_lift_76 : decode cX11_lift 76 = .ok (.iconst 2, 1) := by decide +kernel
theorem dX11_lift_77 : decode cX11_lift 77 = .ok (.invokevirtual 65, 3) := by decide +kernel
theorem dX11_lift_80 : decode cX11_lift 80 = .ok (.ireturn, 1) := by decide +kernel
theorem dX11_lift_81 : decode cX11_lift 81 = .ok (.aload 6, 2) := by decide +kernel
theorem dX11_lift_83 : decode cX11_lift 83 = .ok (.iload 5, 2) := by decide +kernel
theorem dX11_lift_85 : decode cX11_lift 85 = .ok (.invokevirtual 159, 3) := by decide +kernel
theorem dX11_lift_88 : decode cX11_lift 88 = .ok (.ifCond .eq 6, 3) := by decide +kernel
theorem dX11_lift_91 : decode cX11_lift 91 = .ok (.ldc 64, 2) := by decide +kernel
theorem dX11_lift_93 : decode cX11_lift 93 = .ok (.ireturn, 1) := by decide +kernel
theorem dX11_lift_94 : decode cX11_lift 94 = .ok (.iload 5, 2) := by decide +kernel
theorem dX11_lift_96 : decode cX11_lift 96 = .ok (.istore 8, 2) := by decide +kernel
theorem dX11_lift_98 : decode cX11_lift 98 = .ok (.iconst 0, 1) := by decide +kernel
theorem dX11_lift_99 : decode cX11_lift 99 = .ok (.istore 9, 2) := by decide +kernel
theorem dX11_lift_101 : decode cX11_lift 101 = .ok (.iload 9, 2) := by decide +kernel
theorem dX11_lift_103 : decode cX11_lift 103 = .ok (.iload 4, 2) := by decide +kernel
theorem dX11_lift_105 : decode cX11_lift 105 = .ok (.if_icmp .ge 44, 3) := by decide +kernel
theorem dX11_lift_108 : decode cX11_lift 108 = .ok (.aload 7, 2) := by decide +kernel
theorem dX11_lift_110 : decode cX11_lift 110 = .ok (.iload_n 3, 1) := by decide +kernel
theorem dX11_lift_111 : decode cX11_lift 111 = .ok (.iload 9, 2) := by decide +kernel
theorem dX11_lift_113 : decode cX11_lift 113 = .ok (.iadd, 1) := by decide +kernel
theorem dX11_lift_114 : decode cX11_lift 114 = .ok (.invokevirtual 215, 3) := by decide +kernel
theorem dX11_lift_117 : decode cX11_lift 117 = .ok (.istore 10, 2) := by decide +kernel
theorem dX11_lift_119 : decode cX11_lift 119 = .ok (.aload 6, 2) := by decide +kernel
theorem dX11_lift_121 : decode cX11_lift 121 = .ok (.iload 10, 2) := by decide +kernel
theorem dX11_lift_123 : decode cX11_lift 123 = .ok (.invokevirtual 218, 3) := by decide +kernel
theorem dX11_lift_126 : decode cX11_lift 126 = .ok (.ifCond .eq 6, 3) := by decide +kernel
theorem dX11_lift_129 : decode cX11_lift 129 = .ok (.ldc 64, 2) := by decide +kernel
theorem dX11_lift_131 : decode cX11_lift 131 = .ok (.ireturn, 1) := by decide +kernel
theorem dX11_lift_132 : decode cX11_lift 132 = .ok (.aload 6, 2) := by decide +kernel
theorem dX11_lift_134 : decode cX11_lift 134 = .ok (.iload 10, 2) := by decide +kernel
theorem dX11_lift_136 : decode cX11_lift 136 = .ok (.iload 8, 2) := by decide +kernel
theorem dX11_lift_138 : decode cX11_lift 138 = .ok (.invokevirtual 221, 3) := by decide +kernel
theorem dX11_lift_141 : decode cX11_lift 141 = .ok (.istore 8, 2) := by decide +kernel
theorem dX11_lift_143 : decode cX11_lift 143 = .ok (.iinc 9 1, 3) := by decide +kernel
theorem dX11_lift_146 : decode cX11_lift 146 = .ok (.goto (-45), 3) := by decide +kernel
theorem dX11_lift_149 : decode cX11_lift 149 = .ok (.aload_n 0, 1) := by decide +kernel
theorem dX11_lift_150 : decode cX11_lift 150 = .ok (.iload 8, 2) := by decide +kernel
theorem dX11_lift_152 : decode cX11_lift 152 = .ok (.invokevirtual 69, 3) := by decide +kernel
theorem dX11_lift_155 : decode cX11_lift 155 = .ok (.ireturn, 1) := by decide +kernel
theorem dX11_kind_0 : decode cX11_kind 0 = .ok (.iload_n 1, 1) := by decide +kernel
theorem dX11_kind_1 : decode cX11_kind 1 = .ok (.invokestatic 98, 3) := by decide +kernel
theorem dX11_kind_4 : decode cX11_kind 4 = .ok (.ifCond .eq 6, 3) := by decide +kernel
theorem dX11_kind_7 : decode cX11_kind 7 = .ok (.ldc 64, 2) := by decide +kernel
theorem dX11_kind_9 : decode cX11_kind 9 = .ok (.ireturn, 1) := by decide +kernel
theorem dX11_kind_10 : decode cX11_kind 10 = .ok (.aload_n 0, 1) := by decide +kernel
theorem dX11_kind_11 : decode cX11_kind 11 = .ok (.getfield 20, 3) := by decide +kernel
theorem dX11_kind_14 : decode cX11_kind 14 = .ok (.iload_n 1, 1) := by decide +kernel
theorem dX11_kind_15 : decode cX11_kind 15 = .ok (.aaload, 1) := by decide +kernel
theorem dX11_kind_16 : decode cX11_kind 16 = .ok (.astore_n 2, 1) := by decide +kernel
theorem dX11_kind_17 : decode cX11_kind 17 = .ok (.aload_n 2, 1) := by decide +kernel
theorem dX11_kind_18 : decode cX11_kind 18 = .ok (.ifnonnull 11, 3) := by decide +kernel
theorem dX11_kind_21 : decode cX11_kind 21 = .ok (.aload_n 0, 1) := by decide +kernel
theorem dX11_kind_22 : decode cX11_kind 22 = .ok (.iconst 1, 1) := by decide +kernel
theorem dX11_kind_23 : decode cX11_kind 23 = .ok (.invokevirtual 65, 3) := by decide +kernel
theorem dX11_kind_26 : decode cX11_kind 26 = .ok (.goto 11, 3) := by decide +kernel
theorem dX11_kind_29 : decode cX11_kind 29 = .ok (.aload_n 0, 1) := by decide +kernel
theorem dX11_kind_30 : decode cX11_kind 30 = .ok (.aload_n 2, 1) := by decide +kernel
theorem dX11_kind_31 : decode cX11_kind 31 = .ok (.invokevirtual 224, 3) := by decide +kernel
theorem dX11_kind_34 : decode cX11_kind 34 = .ok (.invokevirtual 69, 3) := by decide +kernel
theorem dX11_kind_37 : decode cX11_kind 37 = .ok (.ireturn, 1) := by decide +kernel
theorem dX11_is_0 : decode cX11_is 0 = .ok (.iload_n 1, 1) := by decide +kernel
theorem dX11_is_1 : decode cX11_is 1 = .ok (.invokestatic 98, 3) := by decide +kernel
theorem dX11_is_4 : decode cX11_is 4 = .ok (.ifCond .ne 12, 3) := by decide +kernel
theorem dX11_is_7 : decode cX11_is 7 = .ok (.iload_n 2, 1) := by decide +kernel
theorem dX11_is_8 : decode cX11_is 8 = .ok (.ifCond .lt 8, 3) := by decide +kernel
theorem dX11_is_11 : decode cX11_is 11 = .ok (.iload_n 2, 1) := by decide +kernel
theorem dX11_is_12 : decode cX11_is 12 = .ok (.iconst 5, 1) := by decide +kernel
theorem dX11_is_13 : decode cX11_is 13 = .ok (.if_icmp .lt 6, 3) := by decide +kernel
theorem dX11_is_16 : decode cX11_is 16 = .ok (.ldc 64, 2) := by decide +kernel
theorem dX11_is_18 : decode cX11_is 18 = .ok (.ireturn, 1) := by decide +kernel
theorem dX11_is_19 : decode cX11_is 19 = .ok (.aload_n 0, 1) := by decide +kernel
theorem dX11_is_20 : decode cX11_is 20 = .ok (.getfield 20, 3) := by decide +kernel
theorem dX11_is_23 : decode cX11_is 23 = .ok (.iload_n 1, 1) := by decide +kernel
theorem dX11_is_24 : decode cX11_is 24 = .ok (.aaload, 1) := by decide +kernel
theorem dX11_is_25 : decode cX11_is 25 = .ok (.iload_n 2, 1) := by decide +kernel
theorem dX11_is_26 : decode cX11_is 26 = .ok (.invokestatic 228, 3) := by decide +kernel
theorem dX11_is_29 : decode cX11_is 29 = .ok (.ifCond .eq 7, 3) := by decide +kernel
theorem dX11_is_32 : decode cX11_is 32 = .ok (.iconst 1, 1) := by decide +kernel
theorem dX11_is_33 : decode cX11_is 33 = .ok (.goto 4, 3) := by decide +kernel
theorem dX11_is_36 : decode cX11_is 36 = .ok (.iconst 0, 1) := by decide +kernel
theorem dX11_is_37 : decode cX11_is 37 = .ok (.ireturn, 1) := by decide +kernel
theorem dX11_as_0 : decode cX11_as 0 = .ok (.iload_n 1, 1) := by decide +kernel
theorem dX11_as_1 : decode cX11_as 1 = .ok (.invokestatic 98, 3) := by decide +kernel
theorem dX11_as_4 : decode cX11_as 4 = .ok (.ifCond .ne 12, 3) := by decide +kernel
theorem dX11_as_7 : decode cX11_as 7 = .ok (.iload_n 2, 1) := by decide +kernel
theorem dX11_as_8 : decode cX11_as 8 = .ok (.ifCond .lt 8, 3) := by decide +kernel
theorem dX11_as_11 : decode cX11_as 11 = .ok (.iload_n 2, 1) := by decide +kernel
theorem dX11_as_12 : decode cX11_as 12 = .ok (.iconst 5, 1) := by decide +kernel
theorem dX11_as_13 : decode cX11_as 13 = .ok (.if_icmp .lt 6, 3) := by decide +kernel
theorem dX11_as_16 : decode cX11_as 16 = .ok (.ldc 64, 2) := by decide +kernel
theorem dX11_as_18 : decode cX11_as 18 = .ok (.ireturn, 1) := by decide +kernel
theorem dX11_as_19 : decode cX11_as 19 = .ok (.aload_n 0, 1) := by decide +kernel
theorem dX11_as_20 : decode cX11_as 20 = .ok (.getfield 20, 3) := by decide +kernel
theorem dX11_as_23 : decode cX11_as 23 = .ok (.iload_n 1, 1) := by decide +kernel
theorem dX11_as_24 : decode cX11_as 24 = .ok (.aaload, 1) := by decide +kernel
theorem dX11_as_25 : decode cX11_as 25 = .ok (.astore_n 3, 1) := by decide +kernel
theorem dX11_as_26 : decode cX11_as 26 = .ok (.aload_n 3, 1) := by decide +kernel
theorem dX11_as_27 : decode cX11_as 27 = .ok (.ifnonnull 9, 3) := by decide +kernel
theorem dX11_as_30 : decode cX11_as 30 = .ok (.aload_n 0, 1) := by decide +kernel
theorem dX11_as_31 : decode cX11_as 31 = .ok (.iconst 1, 1) := by decide +kernel
theorem dX11_as_32 : decode cX11_as 32 = .ok (.invokevirtual 65, 3) := by decide +kernel
theorem dX11_as_35 : decode cX11_as 35 = .ok (.ireturn, 1) := by decide +kernel
theorem dX11_as_36 : decode cX11_as 36 = .ok (.aload_n 3, 1) := by decide +kernel
theorem dX11_as_37 : decode cX11_as 37 = .ok (.iload_n 2, 1) := by decide +kernel
theorem dX11_as_38 : decode cX11_as 38 = .ok (.invokestatic 228, 3) := by decide +kernel
theorem dX11_as_41 : decode cX11_as 41 = .ok (.ifCond .eq 14, 3) := by decide +kernel
theorem dX11_as_44 : decode cX11_as 44 = .ok (.aload_n 0, 1) := by decide +kernel
theorem dX11_as_45 : decode cX11_as 45 = .ok (.aload_n 3, 1) := by decide +kernel
theorem dX11_as_46 : decode cX11_as 46 = .ok (.getfield 143, 3) := by decide +kernel
theorem dX11_as_49 : decode cX11_as 49 = .ok (.invokevirtual 69, 3) := by decide +kernel
theorem dX11_as_52 : decode cX11_as 52 = .ok (.goto 8, 3) := by decide +kernel
theorem dX11_as_55 : decode cX11_as 55 = .ok (.aload_n 0, 1) := by decide +kernel
theorem dX11_as_56 : decode cX11_as 56 = .ok (.iconst 3, 1) := by decide +kernel
theorem dX11_as_57 : decode cX11_as 57 = .ok (.invokevirtual 65, 3) := by decide +kernel
theorem dX11_as_60 : decode cX11_as 60 = .ok (.ireturn, 1) := by decide +kernel
theorem dX11_ask_0 : decode cX11_ask 0 = .ok (.iload_n 1, 1) := by decide +kernel
theorem dX11_ask_1 : decode cX11_ask 1 = .ok (.invokestatic 98, 3) := by decide +kernel
theorem dX11_ask_4 : decode cX11_ask 4 = .ok (.ifCond .ne 12, 3) := by decide +kernel
theorem dX11_ask_7 : decode cX11_ask 7 = .ok (.iload_n 2, 1) := by decide +kernel
theorem dX11_ask_8 : decode cX11_ask 8 = .ok (.ifCond .lt 8, 3) := by decide +kernel
theorem dX11_ask_11 : decode cX11_ask 11 = .ok (.iload_n 2, 1) := by decide +kernel
theorem dX11_ask_12 : decode cX11_ask 12 = .ok (.iconst 1, 1) := by decide +kernel
theorem dX11_ask_13 : decode cX11_ask 13 = .ok (.if_icmp .le 6, 3) := by decide +kernel
theorem dX11_ask_16 : decode cX11_ask 16 = .ok (.ldc 64, 2) := by decide +kernel
theorem dX11_ask_18 : decode cX11_ask 18 = .ok (.ireturn, 1) := by decide +kernel
theorem dX11_ask_19 : decode cX11_ask 19 = .ok (.aload_n 0, 1) := by decide +kernel
theorem dX11_ask_20 : decode cX11_ask 20 = .ok (.getfield 24, 3) := by decide +kernel
theorem dX11_ask_23 : decode cX11_ask 23 = .ok (.iconst 2, 1) := by decide +kernel
theorem dX11_ask_24 : decode cX11_ask 24 = .ok (.iconst 0, 1) := by decide +kernel
theorem dX11_ask_25 : decode cX11_ask 25 = .ok (.invokevirtual 28, 3) := by decide +kernel
theorem dX11_ask_28 : decode cX11_ask 28 = .ok (.aload_n 0, 1) := by decide +kernel
theorem dX11_ask_29 : decode cX11_ask 29 = .ok (.getfield 20, 3) := by decide +kernel
theorem dX11_ask_32 : decode cX11_ask 32 = .ok (.iload_n 1, 1) := by decide +kernel
theorem dX11_ask_33 : decode cX11_ask 33 = .ok (.aaload, 1) := by decide +kernel
theorem dX11_ask_34 : decode cX11_ask 34 = .ok (.astore_n 3, 1) := by decide +kernel
theorem dX11_ask_35 : decode cX11_ask 35 = .ok (.aload_n 3, 1) := by decide +kernel
theorem dX11_ask_36 : decode cX11_ask 36 = .ok (.ifnonnull 9, 3) := by decide +kernel
theorem dX11_ask_39 : decode cX11_ask 39 = .ok (.aload_n 0, 1) := by decide +kernel
theorem dX11_ask_40 : decode cX11_ask 40 = .ok (.iconst 1, 1) := by decide +kernel
theorem dX11_ask_41 : decode cX11_ask 41 = .ok (.invokevirtual 65, 3) := by decide +kernel
theorem dX11_ask_44 : decode cX11_ask 44 = .ok (.ireturn, 1) := by decide +kernel
theorem dX11_ask_45 : decode cX11_ask 45 = .ok (.aload_n 0, 1) := by decide +kernel
theorem dX11_ask_46 : decode cX11_ask 46 = .ok (.iload_n 2, 1) := by decide +kernel
theorem dX11_ask_47 : decode cX11_ask 47 = .ok (.ifCond .ne 14, 3) := by decide +kernel
theorem dX11_ask_50 : decode cX11_ask 50 = .ok (.aload_n 3, 1) := by decide +kernel
theorem dX11_ask_51 : decode cX11_ask 51 = .ok (.aload_n 0, 1) := by decide +kernel
theorem dX11_ask_52 : decode cX11_ask 52 = .ok (.getfield 24, 3) := by decide +kernel
theorem dX11_ask_55 : decode cX11_ask 55 = .ok (.invokevirtual 232, 3) := by decide +kernel
theorem dX11_ask_58 : decode cX11_ask 58 = .ok (.goto 11, 3) := by decide +kernel
theorem dX11_ask_61 : decode cX11_ask 61 = .ok (.aload_n 3, 1) := by decide +kernel
theorem dX11_ask_62 : decode cX11_ask 62 = .ok (.aload_n 0, 1) := by decide +kernel
theorem dX11_ask_63 : decode cX11_ask 63 = .ok (.getfield 24, 3) := by decide +kernel
theorem dX11_ask_66 : decode cX11_ask 66 = .ok (.invokevirtual 236, 3) := by decide +kernel
theorem dX11_ask_69 : decode cX11_ask 69 = .ok (.invokevirtual 69, 3) := by decide +kernel
theorem dX11_ask_72 : decode cX11_ask 72 = .ok (.ireturn, 1) := by decide +kernel
theorem dX11_trace_0 : decode cX11_trace 0 = .ok (.aload_n 0, 1) := by decide +kernel
theorem dX11_trace_1 : decode cX11_trace 1 = .ok (.getfield 24, 3) := by decide +kernel
theorem dX11_trace_4 : decode cX11_trace 4 = .ok (.iload_n 1, 1) := by decide +kernel
theorem dX11_trace_5 : decode cX11_trace 5 = .ok (.iconst 1, 1) := by decide +kernel
theorem dX11_trace_6 : decode cX11_trace 6 = .ok (.invokevirtual 76, 3) := by decide +kernel
theorem dX11_trace_9 : decode cX11_trace 9 = .ok (.ifCond .eq 14, 3) := by decide +kernel
theorem dX11_trace_12 : decode cX11_trace 12 = .ok (.aload_n 0, 1) := by decide +kernel
theorem dX11_trace_13 : decode cX11_trace 13 = .ok (.getfield 24, 3) := by decide +kernel
theorem dX11_trace_16 : decode cX11_trace 16 = .ok (.iload_n 1, 1) := by decide +kernel
theorem dX11_trace_17 : decode cX11_trace 17 = .ok (.invokevirtual 215, 3) := by decide +kernel
theorem dX11_trace_20 : decode cX11_trace 20 = .ok (.goto 5, 3) := by decide +kernel
theorem dX11_trace_23 : decode cX11_trace 23 = .ok (.ldc 239, 2) := by decide +kernel
theorem dX11_trace_25 : decode cX11_trace 25 = .ok (.ireturn, 1) := by decide +kernel
theorem dX11_joins_0 : decode cX11_joins 0 = .ok (.iload_n 1, 1) := by decide +kernel
theorem dX11_joins_1 : decode cX11_joins 1 = .ok (.iconst 2, 1) := by decide +kernel
theorem dX11_joins_2 : decode cX11_joins 2 = .ok (.if_icmp .lt 19, 3) := by decide +kernel
theorem dX11_joins_5 : decode cX11_joins 5 = .ok (.iload_n 1, 1) := by decide +kernel
theorem dX11_joins_6 : decode cX11_joins 6 = .ok (.bipush 10, 2) := by decide +kernel
theorem dX11_joins_8 : decode cX11_joins 8 = .ok (.if_icmp .gt 13, 3) := by decide +kernel
theorem dX11_joins_11 : decode cX11_joins 11 = .ok (.iload_n 2, 1) := by decide +kernel
theorem dX11_joins_12 : decode cX11_joins 12 = .ok (.ifCond .lt 9, 3) := by decide +kernel
theorem dX11_joins_15 : decode cX11_joins 15 = .ok (.iload_n 2, 1) := by decide +kernel
theorem dX11_joins_16 : decode cX11_joins 16 = .ok (.bipush 9, 2) := by decide +kernel
theorem dX11_joins_18 : decode cX11_joins 18 = .ok (.if_icmp .le 7, 3) := by decide +kernel
theorem dX11_joins_21 : decode cX11_joins 21 = .ok (.ldc2_w 240, 3) := by decide +kernel
theorem dX11_joins_24 : decode cX11_joins 24 = .ok (.lreturn, 1) := by decide +kernel
theorem dX11_joins_25 : decode cX11_joins 25 = .ok (.aload_n 0, 1) := by decide +kernel
theorem dX11_joins_26 : decode cX11_joins 26 = .ok (.getfield 56, 3) := by decide +kernel
theorem dX11_joins_29 : decode cX11_joins 29 = .ok (.iload_n 1, 1) := by decide +kernel
theorem dX11_joins_30 : decode cX11_joins 30 = .ok (.invokevirtual 242, 3) := by decide +kernel
theorem dX11_joins_33 : decode cX11_joins 33 = .ok (.aload_n 0, 1) := by decide +kernel
theorem dX11_joins_34 : decode cX11_joins 34 = .ok (.getfield 56, 3) := by decide +kernel
theorem dX11_joins_37 : decode cX11_joins 37 = .ok (.iload_n 3, 1) := by decide +kernel
theorem dX11_joins_38 : decode cX11_joins 38 = .ok (.invokevirtual 245, 3) := by decide +kernel
theorem dX11_joins_41 : decode cX11_joins 41 = .ok (.ifCond .eq 9, 3) := by decide +kernel
theorem dX11_joins_44 : decode cX11_joins 44 = .ok (.ldc2_w 240, 3) := by decide +kernel
theorem dX11_joins_47 : decode cX11_joins 47 = .ok (.goto 12, 3) := by decide +kernel
theorem dX11_joins_50 : decode cX11_joins 50 = .ok (.aload_n 0, 1) := by decide +kernel
theorem dX11_joins_51 : decode cX11_joins 51 = .ok (.getfield 56, 3) := by decide +kernel
theorem dX11_joins_54 : decode cX11_joins 54 = .ok (.iload_n 2, 1) := by decide +kernel
theorem dX11_joins_55 : decode cX11_joins 55 = .ok (.iload_n 3, 1) := by decide +kernel
theorem dX11_joins_56 : decode cX11_joins 56 = .ok (.invokevirtual 248, 3) := by decide +kernel
theorem dX11_joins_59 : decode cX11_joins 59 = .ok (.lreturn, 1) := by decide +kernel
theorem dX11_shapes_0 : decode cX11_shapes 0 = .ok (.iload_n 1, 1) := by decide +kernel
theorem dX11_shapes_1 : decode cX11_shapes 1 = .ok (.iconst 1, 1) := by decide +kernel
theorem dX11_shapes_2 : decode cX11_shapes 2 = .ok (.if_icmp .lt 9, 3) := by decide +kernel
theorem dX11_shapes_5 : decode cX11_shapes 5 = .ok (.iload_n 1, 1) := by decide +kernel
theorem dX11_shapes_6 : decode cX11_shapes 6 = .ok (.bipush 10, 2) := by decide +kernel
theorem dX11_shapes_8 : decode cX11_shapes 8 = .ok (.if_icmp .le 6, 3) := by decide +kernel
theorem dX11_shapes_11 : decode cX11_shapes 11 = .ok (.ldc 64, 2) := by decide +kernel
theorem dX11_shapes_13 : decode cX11_shapes 13 = .ok (.ireturn, 1) := by decide +kernel
theorem dX11_shapes_14 : decode cX11_shapes 14 = .ok (.aload_n 0, 1) := by decide +kernel
theorem dX11_shapes_15 : decode cX11_shapes 15 = .ok (.getfield 56, 3) := by decide +kernel
theorem dX11_shapes_18 : decode cX11_shapes 18 = .ok (.iload_n 1, 1) := by decide +kernel
theorem dX11_shapes_19 : decode cX11_shapes 19 = .ok (.invokevirtual 242, 3) := by decide +kernel
theorem dX11_shapes_22 : decode cX11_shapes 22 = .ok (.iload_n 2, 1) := by decide +kernel
theorem dX11_shapes_23 : decode cX11_shapes 23 = .ok (.ldc 239, 2) := by decide +kernel
theorem dX11_shapes_25 : decode cX11_shapes 25 = .ok (.if_icmp .ne 11, 3) := by decide +kernel
theorem dX11_shapes_28 : decode cX11_shapes 28 = .ok (.aload_n 0, 1) := by decide +kernel
theorem dX11_shapes_29 : decode cX11_shapes 29 = .ok (.getfield 56, 3) := by decide +kernel
theorem dX11_shapes_32 : decode cX11_shapes 32 = .ok (.getfield 251, 3) := by decide +kernel
theorem dX11_shapes_35 : decode cX11_shapes 35 = .ok (.ireturn, 1) := by decide +kernel
theorem dX11_shapes_36 : decode cX11_shapes 36 = .ok (.aload_n 0, 1) := by decide +kernel
theorem dX11_shapes_37 : decode cX11_shapes 37 = .ok (.getfield 56, 3) := by decide +kernel
theorem dX11_shapes_40 : decode cX11_shapes 40 = .ok (.iload_n 2, 1) := by decide +kernel
theorem dX11_shapes_41 : decode cX11_shapes 41 = .ok (.invokevirtual 245, 3) := by decide +kernel
theorem dX11_shapes_44 : decode cX11_shapes 44 = .ok (.ifCond .eq 8, 3) := by decide +kernel
theorem dX11_shapes_47 : decode cX11_shapes 47 = .ok (.ldc 64, 2) := by decide +kernel
theorem dX11_shapes_49 : decode cX11_shapes 49 = .ok (.goto 15, 3) := by decide +kernel
theorem dX11_shapes_52 : decode cX11_shapes 52 = .ok (.aload_n 0, 1) := by decide +kernel
theorem dX11_shapes_53 : decode cX11_shapes 53 = .ok (.getfield 56, 3) := by decide +kernel
theorem dX11_shapes_56 : decode cX11_shapes 56 = .ok (.iload_n 2, 1) := by decide +kernel
theorem dX11_shapes_57 : decode cX11_shapes 57 = .ok (.invokevirtual 254, 3) := by decide +kernel
theorem dX11_shapes_60 : decode cX11_shapes 60 = .ok (.iload_n 3, 1) := by decide +kernel
theorem dX11_shapes_61 : decode cX11_shapes 61 = .ok (.invokestatic 198, 3) := by decide +kernel
theorem dX11_shapes_64 : decode cX11_shapes 64 = .ok (.ireturn, 1) := by decide +kernel
theorem dX11_count_0 : decode cX11_count 0 = .ok (.iload_n 1, 1) := by decide +kernel
theorem dX11_count_1 : decode cX11_count 1 = .ok (.ifCond .lt 9, 3) := by decide +kernel
theorem dX11_count_4 : decode cX11_count 4 = .ok (.iload_n 1, 1) := by decide +kernel
theorem dX11_count_5 : decode cX11_count 5 = .ok (.bipush 6, 2) := by decide +kernel
theorem dX11_count_7 : decode cX11_count 7 = .ok (.if_icmp .le 6, 3) := by decide +kernel
theorem dX11_count_10 : decode cX11_count 10 = .ok (.ldc 64, 2) := by decide +kernel
theorem dX11_count_12 : decode cX11_count 12 = .ok (.ireturn, 1) := by decide +kernel
theorem dX11_count_13 : decode cX11_count 13 = .ok (.iload_n 1, 1) := by decide +kernel
theorem dX11_count_14 : decode cX11_count 14 = .ok (.ifCond .ne 10, 3) := by decide +kernel
theorem dX11_count_17 : decode cX11_count 17 = .ok (.aload_n 0, 1) := by decide +kernel
theorem dX11_count_18 : decode cX11_count 18 = .ok (.invokevirtual 257, 3) := by decide +kernel
theorem dX11_count_21 : decode cX11_count 21 = .ok (.goto 8, 3) := by decide +kernel
theorem dX11_count_24 : decode cX11_count 24 = .ok (.aload_n 0, 1) := by decide +kernel
theorem dX11_count_25 : decode cX11_count 25 = .ok (.iload_n 1, 1) := by decide +kernel
theorem dX11_count_26 : decode cX11_count 26 = .ok (.invokevirtual 260, 3) := by decide +kernel
theorem dX11_count_29 : decode cX11_count 29 = .ok (.ireturn, 1) := by decide +kernel
theorem dX11_status_0 : decode cX11_status 0 = .ok (.aload_n 0, 1) := by decide +kernel
theorem dX11_status_1 : decode cX11_status 1 = .ok (.getfield 263, 3) := by decide +kernel
theorem dX11_status_4 : decode cX11_status 4 = .ok (.ireturn, 1) := by decide +kernel
theorem dX11_noRow_0 : decode cX11_noRow 0 = .ok (.iload_n 0, 1) := by decide +kernel
theorem dX11_noRow_1 : decode cX11_noRow 1 = .ok (.ifCond .lt 9, 3) := by decide +kernel
theorem dX11_noRow_4 : decode cX11_noRow 4 = .ok (.iload_n 0, 1) := by decide +kernel
theorem dX11_noRow_5 : decode cX11_noRow 5 = .ok (.bipush 8, 2) := by decide +kernel
theorem dX11_noRow_7 : decode cX11_noRow 7 = .ok (.if_icmp .lt 7, 3) := by decide +kernel
theorem dX11_noRow_10 : decode cX11_noRow 10 = .ok (.iconst 1, 1) := by decide +kernel
theorem dX11_noRow_11 : decode cX11_noRow 11 = .ok (.goto 4, 3) := by decide +kernel
theorem dX11_noRow_14 : decode cX11_noRow 14 = .ok (.iconst 0, 1) := by decide +kernel
theorem dX11_noRow_15 : decode cX11_noRow 15 = .ok (.ireturn, 1) := by decide +kernel
theorem dX11_noPlace_0 : decode cX11_noPlace 0 = .ok (.iload_n 0, 1) := by decide +kernel
theorem dX11_noPlace_1 : decode cX11_noPlace 1 = .ok (.ifCond .lt 9, 3) := by decide +kernel
theorem dX11_noPlace_4 : decode cX11_noPlace 4 = .ok (.iload_n 0, 1) := by decide +kernel
theorem dX11_noPlace_5 : decode cX11_noPlace 5 = .ok (.bipush 10, 2) := by decide +kernel
theorem dX11_noPlace_7 : decode cX11_noPlace 7 = .ok (.if_icmp .lt 7, 3) := by decide +kernel
theorem dX11_noPlace_10 : decode cX11_noPlace 10 = .ok (.iconst 1, 1) := by decide +kernel
theorem dX11_noPlace_11 : decode cX11_noPlace 11 = .ok (.goto 4, 3) := by decide +kernel
theorem dX11_noPlace_14 : decode cX11_noPlace 14 = .ok (.iconst 0, 1) := by decide +kernel
theorem dX11_noPlace_15 : decode cX11_noPlace 15 = .ok (.ireturn, 1) := by decide +kernel
theorem dX11_found_0 : decode cX11_found 0 = .ok (.aload_n 0, 1) := by decide +kernel
theorem dX11_found_1 : decode cX11_found 1 = .ok (.iload_n 1, 1) := by decide +kernel
theorem dX11_found_2 : decode cX11_found 2 = .ok (.putfield 263, 3) := by decide +kernel
theorem dX11_found_5 : decode cX11_found 5 = .ok (.ldc_w 266, 3) := by decide +kernel
theorem dX11_found_8 : decode cX11_found 8 = .ok (.iload_n 1, 1) := by decide +kernel
theorem dX11_found_9 : decode cX11_found 9 = .ok (.isub, 1) := by decide +kernel
theorem dX11_found_10 : decode cX11_found 10 = .ok (.ireturn, 1) := by decide +kernel
theorem dX11_fine_0 : decode cX11_fine 0 = .ok (.aload_n 0, 1) := by decide +kernel
theorem dX11_fine_1 : decode cX11_fine 1 = .ok (.iconst 0, 1) := by decide +kernel
theorem dX11_fine_2 : decode cX11_fine 2 = .ok (.putfield 263, 3) := by decide +kernel
theorem dX11_fine_5 : decode cX11_fine 5 = .ok (.iload_n 1, 1) := by decide +kernel
theorem dX11_fine_6 : decode cX11_fine 6 = .ok (.ireturn, 1) := by decide +kernel
theorem dX11_shelve_0 : decode cX11_shelve 0 = .ok (.iload_n 1, 1) := by decide +kernel
theorem dX11_shelve_1 : decode cX11_shelve 1 = .ok (.invokestatic 98, 3) := by decide +kernel
theorem dX11_shelve_4 : decode cX11_shelve 4 = .ok (.ifCond .eq 6, 3) := by decide +kernel
theorem dX11_shelve_7 : decode cX11_shelve 7 = .ok (.ldc 64, 2) := by decide +kernel
theorem dX11_shelve_9 : decode cX11_shelve 9 = .ok (.ireturn, 1) := by decide +kernel
theorem dX11_shelve_10 : decode cX11_shelve 10 = .ok (.aload_n 0, 1) := by decide +kernel
theorem dX11_shelve_11 : decode cX11_shelve 11 = .ok (.getfield 20, 3) := by decide +kernel
theorem dX11_shelve_14 : decode cX11_shelve 14 = .ok (.iload_n 1, 1) := by decide +kernel
theorem dX11_shelve_15 : decode cX11_shelve 15 = .ok (.aload_n 2, 1) := by decide +kernel
theorem dX11_shelve_16 : decode cX11_shelve 16 = .ok (.aastore, 1) := by decide +kernel
theorem dX11_shelve_17 : decode cX11_shelve 17 = .ok (.aload_n 0, 1) := by decide +kernel
theorem dX11_shelve_18 : decode cX11_shelve 18 = .ok (.aload_n 2, 1) := by decide +kernel
theorem dX11_shelve_19 : decode cX11_shelve 19 = .ok (.invokevirtual 224, 3) := by decide +kernel
theorem dX11_shelve_22 : decode cX11_shelve 22 = .ok (.invokevirtual 69, 3) := by decide +kernel
theorem dX11_shelve_25 : decode cX11_shelve 25 = .ok (.ireturn, 1) := by decide +kernel
theorem dX11_tellOf_0 : decode cX11_tellOf 0 = .ok (.iload_n 2, 1) := by decide +kernel
theorem dX11_tellOf_1 : decode cX11_tellOf 1 = .ok (.tableswitch 79 0 4 #[35, 40, 46, 51, 56], 35) := by decide +kernel
theorem dX11_tellOf_36 : decode cX11_tellOf 36 = .ok (.aload_n 1, 1) := by decide +kernel
theorem dX11_tellOf_37 : decode cX11_tellOf 37 = .ok (.getfield 143, 3) := by decide +kernel
theorem dX11_tellOf_40 : decode cX11_tellOf 40 = .ok (.ireturn, 1) := by decide +kernel
theorem dX11_tellOf_41 : decode cX11_tellOf 41 = .ok (.aload_n 1, 1) := by decide +kernel
theorem dX11_tellOf_42 : decode cX11_tellOf 42 = .ok (.getfield 139, 3) := by decide +kernel
theorem dX11_tellOf_45 : decode cX11_tellOf 45 = .ok (.arraylength, 1) := by decide +kernel
theorem dX11_tellOf_46 : decode cX11_tellOf 46 = .ok (.ireturn, 1) := by decide +kernel
theorem dX11_tellOf_47 : decode cX11_tellOf 47 = .ok (.aload_n 1, 1) := by decide +kernel
theorem dX11_tellOf_48 : decode cX11_tellOf 48 = .ok (.getfield 129, 3) := by decide +kernel
theorem dX11_tellOf_51 : decode cX11_tellOf 51 = .ok (.ireturn, 1) := by decide +kernel
theorem dX11_tellOf_52 : decode cX11_tellOf 52 = .ok (.aload_n 1, 1) := by decide +kernel
theorem dX11_tellOf_53 : decode cX11_tellOf 53 = .ok (.invokevirtual 267, 3) := by decide +kernel
theorem dX11_tellOf_56 : decode cX11_tellOf 56 = .ok (.ireturn, 1) := by decide +kernel
theorem dX11_tellOf_57 : decode cX11_tellOf 57 = .ok (.aload_n 0, 1) := by decide +kernel
theorem dX11_tellOf_58 : decode cX11_tellOf 58 = .ok (.getfield 35, 3) := by decide +kernel
theorem dX11_tellOf_61 : decode cX11_tellOf 61 = .ok (.aload_n 1, 1) := by decide +kernel
theorem dX11_tellOf_62 : decode cX11_tellOf 62 = .ok (.getfield 139, 3) := by decide +kernel
theorem dX11_tellOf_65 : decode cX11_tellOf 65 = .ok (.aload_n 1, 1) := by decide +kernel
theorem dX11_tellOf_66 : decode cX11_tellOf 66 = .ok (.getfield 143, 3) := by decide +kernel
theorem dX11_tellOf_69 : decode cX11_tellOf 69 = .ok (.invokevirtual 146, 3) := by decide +kernel
theorem dX11_tellOf_72 : decode cX11_tellOf 72 = .ok (.aload_n 0, 1) := by decide +kernel
theorem dX11_tellOf_73 : decode cX11_tellOf 73 = .ok (.getfield 35, 3) := by decide +kernel
theorem dX11_tellOf_76 : decode cX11_tellOf 76 = .ok (.getfield 270, 3) := by decide +kernel
theorem dX11_tellOf_79 : decode cX11_tellOf 79 = .ok (.ireturn, 1) := by decide +kernel
theorem dX11_tellOf_80 : decode cX11_tellOf 80 = .ok (.aload_n 0, 1) := by decide +kernel
theorem dX11_tellOf_81 : decode cX11_tellOf 81 = .ok (.getfield 49, 3) := by decide +kernel
theorem dX11_tellOf_84 : decode cX11_tellOf 84 = .ok (.aload_n 1, 1) := by decide +kernel
theorem dX11_tellOf_85 : decode cX11_tellOf 85 = .ok (.invokevirtual 273, 3) := by decide +kernel
theorem dX11_tellOf_88 : decode cX11_tellOf 88 = .ok (.ireturn, 1) := by decide +kernel
theorem dX11_alike_0 : decode cX11_alike 0 = .ok (.aload_n 1, 1) := by decide +kernel
theorem dX11_alike_1 : decode cX11_alike 1 = .ok (.getfield 139, 3) := by decide +kernel
theorem dX11_alike_4 : decode cX11_alike 4 = .ok (.arraylength, 1) := by decide +kernel
theorem dX11_alike_5 : decode cX11_alike 5 = .ok (.istore_n 3, 1) := by decide +kernel
theorem dX11_alike_6 : decode cX11_alike 6 = .ok (.aload_n 1, 1) := by decide +kernel
theorem dX11_alike_7 : decode cX11_alike 7 = .ok (.getfield 143, 3) := by decide +kernel
theorem dX11_alike_10 : decode cX11_alike 10 = .ok (.aload_n 2, 1) := by decide +kernel
theorem dX11_alike_11 : decode cX11_alike 11 = .ok (.getfield 143, 3) := by decide +kernel
theorem dX11_alike_14 : decode cX11_alike 14 = .ok (.if_icmp .ne 12, 3) := by decide +kernel
theorem dX11_alike_17 : decode cX11_alike 17 = .ok (.iload_n 3, 1) := by decide +kernel
theorem dX11_alike_18 : decode cX11_alike 18 = .ok (.aload_n 2, 1) := by decide +kernel
theorem dX11_alike_19 : decode cX11_alike 19 = .ok (.getfield 139, 3) := by decide +kernel
theorem dX11_alike_22 : decode cX11_alike 22 = .ok (.arraylength, 1) := by decide +kernel
theorem dX11_alike_23 : decode cX11_alike 23 = .ok (.if_icmp .eq 5, 3) := by decide +kernel
theorem dX11_alike_26 : decode cX11_alike 26 = .ok (.iconst 0, 1) := by decide +kernel
theorem dX11_alike_27 : decode cX11_alike 27 = .ok (.ireturn, 1) := by decide +kernel
theorem dX11_alike_28 : decode cX11_alike 28 = .ok (.aload_n 0, 1) := by decide +kernel
theorem dX11_alike_29 : decode cX11_alike 29 = .ok (.getfield 35, 3) := by decide +kernel
theorem dX11_alike_32 : decode cX11_alike 32 = .ok (.aload_n 1, 1) := by decide +kernel
theorem dX11_alike_33 : decode cX11_alike 33 = .ok (.getfield 139, 3) := by decide +kernel
theorem dX11_alike_36 : decode cX11_alike 36 = .ok (.aload_n 1, 1) := by decide +kernel
theorem dX11_alike_37 : decode cX11_alike 37 = .ok (.getfield 143, 3) := by decide +kernel
theorem dX11_alike_40 : decode cX11_alike 40 = .ok (.invokevirtual 146, 3) := by decide +kernel
theorem dX11_alike_43 : decode cX11_alike 43 = .ok (.aload_n 0, 1) := by decide +kernel
theorem dX11_alike_44 : decode cX11_alike 44 = .ok (.getfield 35, 3) := by decide +kernel
theorem dX11_alike_47 : decode cX11_alike 47 = .ok (.getfield 150, 3) := by decide +kernel
theorem dX11_alike_50 : decode cX11_alike 50 = .ok (.iload_n 3, 1) := by decide +kernel
theorem dX11_alike_51 : decode cX11_alike 51 = .ok (.invokestatic 153, 3) := by decide +kernel
theorem dX11_alike_54 : decode cX11_alike 54 = .ok (.astore 4, 2) := by decide +kernel
theorem dX11_alike_56 : decode cX11_alike 56 = .ok (.aload_n 0, 1) := by decide +kernel
theorem dX11_alike_57 : decode cX11_alike 57 = .ok (.getfield 35, 3) := by decide +kernel
theorem dX11_alike_60 : decode cX11_alike 60 = .ok (.aload_n 2, 1) := by decide +kernel
theorem dX11_alike_61 : decode cX11_alike 61 = .ok (.getfield 139, 3) := by decide +kernel
theorem dX11_alike_64 : decode cX11_alike 64 = .ok (.aload_n 2, 1) := by decide +kernel
theorem dX11_alike_65 : decode cX11_alike 65 = .ok (.getfield 143, 3) := by decide +kernel
theorem dX11_alike_68 : decode cX11_alike 68 = .ok (.invokevirtual 146, 3) := by decide +kernel
theorem dX11_alike_71 : decode cX11_alike 71 = .ok (.iconst 0, 1) := by decide +kernel
theorem dX11_alike_72 : decode cX11_alike 72 = .ok (.istore 5, 2) := by decide +kernel
theorem dX11_alike_74 : decode cX11_alike 74 = .ok (.iload 5, 2) := by decide +kernel
theorem dX11_alike_76 : decode cX11_alike 76 = .ok (.iload_n 3, 1) := by decide +kernel
theorem dX11_alike_77 : decode cX11_alike 77 = .ok (.if_icmp .ge 30, 3) := by decide +kernel
theorem dX11_alike_80 : decode cX11_alike 80 = .ok (.aload 4, 2) := by decide +kernel
theorem dX11_alike_82 : decode cX11_alike 82 = .ok (.iload 5, 2) := by decide +kernel
theorem dX11_alike_84 : decode cX11_alike 84 = .ok (.laload, 1) := by decide +kernel
theorem dX11_alike_85 : decode cX11_alike 85 = .ok (.aload_n 0, 1) := by decide +kernel
theorem dX11_alike_86 : decode cX11_alike 86 = .ok (.getfield 35, 3) := by decide +kernel
theorem dX11_alike_89 : decode cX11_alike 89 = .ok (.getfield 150, 3) := by decide +kernel
theorem dX11_alike_92 : decode cX11_alike 92 = .ok (.iload 5, 2) := by decide +kernel
theorem dX11_alike_94 : decode cX11_alike 94 = .ok (.laload, 1) := by decide +kernel
theorem dX11_alike_95 : decode cX11_alike 95 = .ok (.lcmp, 1) := by decide +kernel
theorem dX11_alike_96 : decode cX11_alike 96 = .ok (.ifCond .eq 5, 3) := by decide +kernel
theorem dX11_alike_99 : decode cX11_alike 99 = .ok (.iconst 0, 1) := by decide +kernel
theorem dX11_alike_100 : decode cX11_alike 100 = .ok (.ireturn, 1) := by decide +kernel
theorem dX11_alike_101 : decode cX11_alike 101 = .ok (.iinc 5 1, 3) := by decide +kernel
theorem dX11_alike_104 : decode cX11_alike 104 = .ok (.goto (-30), 3) := by decide +kernel
theorem dX11_alike_107 : decode cX11_alike 107 = .ok (.iconst 1, 1) := by decide +kernel
theorem dX11_alike_108 : decode cX11_alike 108 = .ok (.ireturn, 1) := by decide +kernel
theorem dX11_ofKind_0 : decode cX11_ofKind 0 = .ok (.iload_n 1, 1) := by decide +kernel
theorem dX11_ofKind_1 : decode cX11_ofKind 1 = .ok (.tableswitch 51 1 4 #[31, 36, 41, 46], 31) := by decide +kernel
theorem dX11_ofKind_32 : decode cX11_ofKind 32 = .ok (.aload_n 0, 1) := by decide +kernel
theorem dX11_ofKind_33 : decode cX11_ofKind 33 = .ok (.instanceof 276, 3) := by decide +kernel
theorem dX11_ofKind_36 : decode cX11_ofKind 36 = .ok (.ireturn, 1) := by decide +kernel
theorem dX11_ofKind_37 : decode cX11_ofKind 37 = .ok (.aload_n 0, 1) := by decide +kernel
theorem dX11_ofKind_38 : decode cX11_ofKind 38 = .ok (.instanceof 174, 3) := by decide +kernel
theorem dX11_ofKind_41 : decode cX11_ofKind 41 = .ok (.ireturn, 1) := by decide +kernel
theorem dX11_ofKind_42 : decode cX11_ofKind 42 = .ok (.aload_n 0, 1) := by decide +kernel
theorem dX11_ofKind_43 : decode cX11_ofKind 43 = .ok (.instanceof 278, 3) := by decide +kernel
theorem dX11_ofKind_46 : decode cX11_ofKind 46 = .ok (.ireturn, 1) := by decide +kernel
theorem dX11_ofKind_47 : decode cX11_ofKind 47 = .ok (.aload_n 0, 1) := by decide +kernel
theorem dX11_ofKind_48 : decode cX11_ofKind 48 = .ok (.instanceof 280, 3) := by decide +kernel
theorem dX11_ofKind_51 : decode cX11_ofKind 51 = .ok (.ireturn, 1) := by decide +kernel
theorem dX11_ofKind_52 : decode cX11_ofKind 52 = .ok (.aload_n 0, 1) := by decide +kernel
theorem dX11_ofKind_53 : decode cX11_ofKind 53 = .ok (.ifnull 7, 3) := by decide +kernel
theorem dX11_ofKind_56 : decode cX11_ofKind 56 = .ok (.iconst 1, 1) := by decide +kernel
theorem dX11_ofKind_57 : decode cX11_ofKind 57 = .ok (.goto 4, 3) := by decide +kernel
theorem dX11_ofKind_60 : decode cX11_ofKind 60 = .ok (.iconst 0, 1) := by decide +kernel
theorem dX11_ofKind_61 : decode cX11_ofKind 61 = .ok (.ireturn, 1) := by decide +kernel
theorem dX11_rowsThere_0 : decode cX11_rowsThere 0 = .ok (.iconst 0, 1) := by decide +kernel
theorem dX11_rowsThere_1 : decode cX11_rowsThere 1 = .ok (.istore_n 1, 1) := by decide +kernel
theorem dX11_rowsThere_2 : decode cX11_rowsThere 2 = .ok (.iconst 0, 1) := by decide +kernel
theorem dX11_rowsThere_3 : decode cX11_rowsThere 3 = .ok (.istore_n 2, 1) := by decide +kernel
theorem dX11_rowsThere_4 : decode cX11_rowsThere 4 = .ok (.iload_n 2, 1) := by decide +kernel
theorem dX11_rowsThere_5 : decode cX11_rowsThere 5 = .ok (.bipush 8, 2) := by decide +kernel
theorem dX11_rowsThere_7 : decode cX11_rowsThere 7 = .ok (.if_icmp .ge 24, 3) := by decide +kernel
theorem dX11_rowsThere_10 : decode cX11_rowsThere 10 = .ok (.aload_n 0, 1) := by decide +kernel
theorem dX11_rowsThere_11 : decode cX11_rowsThere 11 = .ok (.getfield 11, 3) := by decide +kernel
theorem dX11_rowsThere_14 : decode cX11_rowsThere 14 = .ok (.iload_n 2, 1) := by decide +kernel
theorem dX11_rowsThere_15 : decode cX11_rowsThere 15 = .ok (.aaload, 1) := by decide +kernel
theorem dX11_rowsThere_16 : decode cX11_rowsThere 16 = .ok (.invokevirtual 72, 3) := by decide +kernel
theorem dX11_rowsThere_19 : decode cX11_rowsThere 19 = .ok (.ifCond .ne 6, 3) := by decide +kernel
theorem dX11_rowsThere_22 : decode cX11_rowsThere 22 = .ok (.iinc 1 1, 3) := by decide +kernel
theorem dX11_rowsThere_25 : decode cX11_rowsThere 25 = .ok (.iinc 2 1, 3) := by decide +kernel
theorem dX11_rowsThere_28 : decode cX11_rowsThere 28 = .ok (.goto (-24), 3) := by decide +kernel
theorem dX11_rowsThere_31 : decode cX11_rowsThere 31 = .ok (.iload_n 1, 1) := by decide +kernel
theorem dX11_rowsThere_32 : decode cX11_rowsThere 32 = .ok (.ireturn, 1) := by decide +kernel
theorem dX11_coversThere_0 : decode cX11_coversThere 0 = .ok (.iconst 0, 1) := by decide +kernel
theorem dX11_coversThere_1 : decode cX11_coversThere 1 = .ok (.istore_n 2, 1) := by decide +kernel
theorem dX11_coversThere_2 : decode cX11_coversThere 2 = .ok (.iconst 0, 1) := by decide +kernel
theorem dX11_coversThere_3 : decode cX11_coversThere 3 = .ok (.istore_n 3, 1) := by decide +kernel
theorem dX11_coversThere_4 : decode cX11_coversThere 4 = .ok (.iload_n 3, 1) := by decide +kernel
theorem dX11_coversThere_5 : decode cX11_coversThere 5 = .ok (.bipush 10, 2) := by decide +kernel
theorem dX11_coversThere_7 : decode cX11_coversThere 7 = .ok (.if_icmp .ge 53, 3) := by decide +kernel
theorem dX11_coversThere_10 : decode cX11_coversThere 10 = .ok (.aload_n 0, 1) := by decide +kernel
theorem dX11_coversThere_11 : decode cX11_coversThere 11 = .ok (.getfield 20, 3) := by decide +kernel
theorem dX11_coversThere_14 : decode cX11_coversThere 14 = .ok (.iload_n 3, 1) := by decide +kernel
theorem dX11_coversThere_15 : decode cX11_coversThere 15 = .ok (.aaload, 1) := by decide +kernel
theorem dX11_coversThere_16 : decode cX11_coversThere 16 = .ok (.astore 4, 2) := by decide +kernel
theorem dX11_coversThere_18 : decode cX11_coversThere 18 = .ok (.aload 4, 2) := by decide +kernel
theorem dX11_coversThere_20 : decode cX11_coversThere 20 = .ok (.ifnull 34, 3) := by decide +kernel
theorem dX11_coversThere_23 : decode cX11_coversThere 23 = .ok (.iload_n 1, 1) := by decide +kernel
theorem dX11_coversThere_24 : decode cX11_coversThere 24 = .ok (.bipush 6, 2) := by decide +kernel
theorem dX11_coversThere_26 : decode cX11_coversThere 26 = .ok (.if_icmp .ne 14, 3) := by decide +kernel
theorem dX11_coversThere_29 : decode cX11_coversThere 29 = .ok (.aload 4, 2) := by decide +kernel
theorem dX11_coversThere_31 : decode cX11_coversThere 31 = .ok (.invokevirtual 136, 3) := by decide +kernel
theorem dX11_coversThere_34 : decode cX11_coversThere 34 = .ok (.ifCond .eq 20, 3) := by decide +kernel
theorem dX11_coversThere_37 : decode cX11_coversThere 37 = .ok (.goto 14, 3) := by decide +kernel
theorem dX11_coversThere_40 : decode cX11_coversThere 40 = .ok (.aload 4, 2) := by decide +kernel
theorem dX11_coversThere_42 : decode cX11_coversThere 42 = .ok (.iload_n 1, 1) := by decide +kernel
theorem dX11_coversThere_43 : decode cX11_coversThere 43 = .ok (.iconst 1, 1) := by decide +kernel
theorem dX11_coversThere_44 : decode cX11_coversThere 44 = .ok (.isub, 1) := by decide +kernel
theorem dX11_coversThere_45 : decode cX11_coversThere 45 = .ok (.invokestatic 228, 3) := by decide +kernel
theorem dX11_coversThere_48 : decode cX11_coversThere 48 = .ok (.ifCond .eq 6, 3) := by decide +kernel
theorem dX11_coversThere_51 : decode cX11_coversThere 51 = .ok (.iinc 2 1, 3) := by decide +kernel
theorem dX11_coversThere_54 : decode cX11_coversThere 54 = .ok (.iinc 3 1, 3) := by decide +kernel
theorem dX11_coversThere_57 : decode cX11_coversThere 57 = .ok (.goto (-53), 3) := by decide +kernel
theorem dX11_coversThere_60 : decode cX11_coversThere 60 = .ok (.iload_n 2, 1) := by decide +kernel
theorem dX11_coversThere_61 : decode cX11_coversThere 61 = .ok (.ireturn, 1) := by decide +kernel
theorem dX12_init_0 : decode cX12_init 0 = .ok (.aload_n 0, 1) := by decide +kernel
theorem dX12_init_1 : decode cX12_init 1 = .ok (.invokespecial 1, 3) := by decide +kernel
theorem dX12_init_4 : decode cX12_init 4 = .ok (.aload_n 0, 1) := by decide +kernel
theorem dX12_init_5 : decode cX12_init 5 = .ok (.bipush 8, 2) := by decide +kernel
theorem dX12_init_7 : decode cX12_init 7 = .ok (.newarray .int, 2) := by decide +kernel
theorem dX12_init_9 : decode cX12_init 9 = .ok (.dup, 1) := by decide +kernel
theorem dX12_init_10 : decode cX12_init 10 = .ok (.iconst 0, 1) := by decide +kernel
theorem dX12_init_11 : decode cX12_init 11 = .ok (.iconst (-1), 1) := by decide +kernel
theorem dX12_init_12 : decode cX12_init 12 = .ok (.iastore, 1) := by decide +kernel
theorem dX12_init_13 : decode cX12_init 13 = .ok (.dup, 1) := by decide +kernel
theorem dX12_init_14 : decode cX12_init 14 = .ok (.iconst 1, 1) := by decide +kernel
theorem dX12_init_15 : decode cX12_init 15 = .ok (.iconst (-1), 1) := by decide +kernel
theorem dX12_init_16 : decode cX12_init 16 = .ok (.iastore, 1) := by decide +kernel
theorem dX12_init_17 : decode cX12_init 17 = .ok (.dup, 1) := by decide +kernel
theorem dX12_init_18 : decode cX12_init 18 = .ok (.iconst 2, 1) := by decide +kernel
theorem dX12_init_19 : decode cX12_init 19 = .ok (.iconst (-1), 1) := by decide +kernel
theorem dX12_init_20 : decode cX12_init 20 = .ok (.iastore, 1) := by decide +kernel
theorem dX12_init_21 : decode cX12_init 21 = .ok (.dup, 1) := by decide +kernel
theorem dX12_init_22 : decode cX12_init 22 = .ok (.iconst 3, 1) := by decide +kernel
theorem dX12_init_23 : decode cX12_init 23 = .ok (.iconst (-1), 1) := by decide +kernel
theorem dX12_init_24 : decode cX12_init 24 = .ok (.iastore, 1) := by decide +kernel
theorem dX12_init_25 : decode cX12_init 25 = .ok (.dup, 1) := by decide +kernel
theorem dX12_init_26 : decode cX12_init 26 = .ok (.iconst 4, 1) := by decide +kernel
theorem dX12_init_27 : decode cX12_init 27 = .ok (.iconst (-1), 1) := by decide +kernel
theorem dX12_init_28 : decode cX12_init 28 = .ok (.iastore, 1) := by decide +kernel
theorem dX12_init_29 : decode cX12_init 29 = .ok (.dup, 1) := by decide +kernel
theorem dX12_init_30 : decode cX12_init 30 = .ok (.iconst 5, 1) := by decide +kernel
theorem dX12_init_31 : decode cX12_init 31 = .ok (.iconst (-1), 1) := by decide +kernel
theorem dX12_init_32 : decode cX12_init 32 = .ok (.iastore, 1) := by decide +kernel
theorem dX12_init_33 : decode cX12_init 33 = .ok (.dup, 1) := by decide +kernel
theorem dX12_init_34 : decode cX12_init 34 = .ok (.bipush 6, 2) := by decide +kernel
theorem dX12_init_36 : decode cX12_init 36 = .ok (.iconst (-1), 1) := by decide +kernel
theorem dX12_init_37 : decode cX12_init 37 = .ok (.iastore, 1) := by decide +kernel
theorem dX12_init_38 : decode cX12_init 38 = .ok (.dup, 1) := by decide +kernel
theorem dX12_init_39 : decode cX12_init 39 = .ok (.bipush 7, 2) := by decide +kernel
theorem dX12_init_41 : decode cX12_init 41 = .ok (.iconst (-1), 1) := by decide +kernel
theorem dX12_init_42 : decode cX12_init 42 = .ok (.iastore, 1) := by decide +kernel
theorem dX12_init_43 : decode cX12_init 43 = .ok (.putfield 7, 3) := by decide +kernel
theorem dX12_init_46 : decode cX12_init 46 = .ok (.aload_n 0, 1) := by decide +kernel
theorem dX12_init_47 : decode cX12_init 47 = .ok (.bipush 8, 2) := by decide +kernel
theorem dX12_init_49 : decode cX12_init 49 = .ok (.newarray .int, 2) := by decide +kernel
theorem dX12_init_51 : decode cX12_init 51 = .ok (.putfield 13, 3) := by decide +kernel
theorem dX12_init_54 : decode cX12_init 54 = .ok (.aload_n 0, 1) := by decide +kernel
theorem dX12_init_55 : decode cX12_init 55 = .ok (.sipush 768, 3) := by decide +kernel
theorem dX12_init_58 : decode cX12_init 58 = .ok (.newarray .int, 2) := by decide +kernel
theorem dX12_init_60 : decode cX12_init 60 = .ok (.putfield 16, 3) := by decide +kernel
theorem dX12_init_63 : decode cX12_init 63 = .ok (.aload_n 0, 1) := by decide +kernel
theorem dX12_init_64 : decode cX12_init 64 = .ok (.bipush 13, 2) := by decide +kernel
theorem dX12_init_66 : decode cX12_init 66 = .ok (.newarray .int, 2) := by decide +kernel
theorem dX12_init_68 : decode cX12_init 68 = .ok (.putfield 19, 3) := by decide +kernel
theorem dX12_init_71 : decode cX12_init 71 = .ok (.aload_n 0, 1) := by decide +kernel
theorem dX12_init_72 : decode cX12_init 72 = .ok (.bipush 13, 2) := by decide +kernel
theorem dX12_init_74 : decode cX12_init 74 = .ok (.newarray .int, 2) := by decide +kernel
theorem dX12_init_76 : decode cX12_init 76 = .ok (.putfield 22, 3) := by decide +kernel
theorem dX12_init_79 : decode cX12_init 79 = .ok (.aload_n 0, 1) := by decide +kernel
theorem dX12_init_80 : decode cX12_init 80 = .ok (.sipush 1248, 3) := by decide +kernel
theorem dX12_init_83 : decode cX12_init 83 = .ok (.newarray .int, 2) := by decide +kernel
theorem dX12_init_85 : decode cX12_init 85 = .ok (.putfield 25, 3) := by decide +kernel
theorem dX12_init_88 : decode cX12_init 88 = .ok (.aload_n 0, 1) := by decide +kernel
theorem dX12_init_89 : decode cX12_init 89 = .ok (.bipush 12, 2) := by decide +kernel
theorem dX12_init_91 : decode cX12_init 91 = .ok (.newarray .boolean, 2) := by decide +kernel
theorem dX12_init_93 : decode cX12_init 93 = .ok (.putfield 28, 3) := by decide +kernel
theorem dX12_init_96 : decode cX12_init 96 = .ok (.aload_n 0, 1) := by decide +kernel
theorem dX12_init_97 : decode cX12_init 97 = .ok (.bipush 12, 2) := by decide +kernel
theorem dX12_init_99 : decode cX12_init 99 = .ok (.newarray .int, 2) := by decide +kernel
theorem dX12_init_101 : decode cX12_init 101 = .ok (.putfield 32, 3) := by decide +kernel
theorem dX12_init_104 : decode cX12_init 104 = .ok (.aload_n 0, 1) := by decide +kernel
theorem dX12_init_105 : decode cX12_init 105 = .ok (.bipush 12, 2) := by decide +kernel
theorem dX12_init_107 : decode cX12_init 107 = .ok (.newarray .int, 2) := by decide +kernel
theorem dX12_init_109 : decode cX12_init 109 = .ok (.putfield 35, 3) := by decide +kernel
theorem dX12_init_112 : decode cX12_init 112 = .ok (.aload_n 0, 1) := by decide +kernel
theorem dX12_init_113 : decode cX12_init 113 = .ok (.bipush 12, 2) := by decide +kernel
theorem dX12_init_115 : decode cX12_init 115 = .ok (.newarray .int, 2) := by decide +kernel
theorem dX12_init_117 : decode cX12_init 117 = .ok (.putfield 38, 3) := by decide +kernel
theorem dX12_init_120 : decode cX12_init 120 = .ok (.aload_n 0, 1) := by decide +kernel
theorem dX12_init_121 : decode cX12_init 121 = .ok (.bipush 12, 2) := by decide +kernel
theorem dX12_init_123 : decode cX12_init 123 = .ok (.newarray .int, 2) := by decide +kernel
theorem dX12_init_125 : decode cX12_init 125 = .ok (.putfield 41, 3) := by decide +kernel
theorem dX12_init_128 : decode cX12_init 128 = .ok (.aload_n 0, 1) := by decide +kernel
theorem dX12_init_129 : decode cX12_init 129 = .ok (.bipush 12, 2) := by decide +kernel
theorem dX12_init_131 : decode cX12_init 131 = .ok (.newarray .int, 2) := by decide +kernel
theorem dX12_init_133 : decode cX12_init 133 = .ok (.putfield 44, 3) := by decide +kernel
theorem dX12_init_136 : decode cX12_init 136 = .ok (.aload_n 0, 1) := by decide +kernel
theorem dX12_init_137 : decode cX12_init 137 = .ok (.sipush 144, 3) := by decide +kernel
theorem dX12_init_140 : decode cX12_init 140 = .ok (.newarray .boolean, 2) := by decide +kernel
theorem dX12_init_142 : decode cX12_init 142 = .ok (.putfield 47, 3) := by decide +kernel
theorem dX12_init_145 : decode cX12_init 145 = .ok (.aload_n 0, 1) := by decide +kernel
theorem dX12_init_146 : decode cX12_init 146 = .ok (.sipush 1728, 3) := by decide +kernel
theorem dX12_init_149 : decode cX12_init 149 = .ok (.newarray .int, 2) := by decide +kernel
theorem dX12_init_151 : decode cX12_init 151 = .ok (.putfield 50, 3) := by decide +kernel
theorem dX12_init_154 : decode cX12_init 154 = .ok (.aload_n 0, 1) := by decide +kernel
theorem dX12_init_155 : decode cX12_init 155 = .ok (.bipush 12, 2) := by decide +kernel
theorem dX12_init_157 : decode cX12_init 157 = .ok (.newarray .int, 2) := by decide +kernel
theorem dX12_init_159 : decode cX12_init 159 = .ok (.putfield 53, 3) := by decide +kernel
theorem dX12_init_162 : decode cX12_init 162 = .ok (.aload_n 0, 1) := by decide +kernel
theorem dX12_init_163 : decode cX12_init 163 = .ok (.bipush 12, 2) := by decide +kernel
theorem dX12_init_165 : decode cX12_init 165 = .ok (.newarray .int, 2) := by decide +kernel
theorem dX12_init_167 : decode cX12_init 167 = .ok (.putfield 56, 3) := by decide +kernel
theorem dX12_init_170 : decode cX12_init 170 = .ok (.aload_n 0, 1) := by decide +kernel
theorem dX12_init_171 : decode cX12_init 171 = .ok (.sipush 28800, 3) := by decide +kernel
theorem dX12_init_174 : decode cX12_init 174 = .ok (.newarray .int, 2) := by decide +kernel
theorem dX12_init_176 : decode cX12_init 176 = .ok (.putfield 59, 3) := by decide +kernel
theorem dX12_init_179 : decode cX12_init 179 = .ok (.aload_n 0, 1) := by decide +kernel
theorem dX12_init_180 : decode cX12_init 180 = .ok (.bipush 16, 2) := by decide +kernel
theorem dX12_init_182 : decode cX12_init 182 = .ok (.newarray .int, 2) := by decide +kernel
theorem dX12_init_184 : decode cX12_init 184 = .ok (.putfield 62, 3) := by decide +kernel
theorem dX12_init_187 : decode cX12_init 187 = .ok (.aload_n 0, 1) := by decide +kernel
theorem dX12_init_188 : decode cX12_init 188 = .ok (.sipush 430, 3) := by decide +kernel
theorem dX12_init_191 : decode cX12_init 191 = .ok (.newarray .int, 2) := by decide +kernel
theorem dX12_init_193 : decode cX12_init 193 = .ok (.putfield 65, 3) := by decide +kernel
theorem dX12_init_196 : decode cX12_init 196 = .ok (.aload_n 0, 1) := by decide +kernel
theorem dX12_init_197 : decode cX12_init 197 = .ok (.bipush 10, 2) := by decide +kernel
theorem dX12_init_199 : decode cX12_init 199 = .ok (.newarray .int, 2) := by decide +kernel
theorem dX12_init_201 : decode cX12_init 201 = .ok (.putfield 68, 3) := by decide +kernel
theorem dX12_init_204 : decode cX12_init 204 = .ok (.aload_n 0, 1) := by decide +kernel
theorem dX12_init_205 : decode cX12_init 205 = .ok (.bipush 43, 2) := by decide +kernel
theorem dX12_init_207 : decode cX12_init 207 = .ok (.newarray .long, 2) := by decide +kernel
theorem dX12_init_209 : decode cX12_init 209 = .ok (.putfield 71, 3) := by decide +kernel
theorem dX12_init_212 : decode cX12_init 212 = .ok (.aload_n 0, 1) := by decide +kernel
theorem dX12_init_213 : decode cX12_init 213 = .ok (.bipush 43, 2) := by decide +kernel
theorem dX12_init_215 : decode cX12_init 215 = .ok (.newarray .long, 2) := by decide +kernel
theorem dX12_init_217 : decode cX12_init 217 = .ok (.putfield 75, 3) := by decide +kernel
theorem dX12_init_220 : decode cX12_init 220 = .ok (.return_, 1) := by decide +kernel
theorem dX12_in_0 : decode cX12_in 0 = .ok (.lload_n 0, 1) := by decide +kernel
theorem dX12_in_1 : decode cX12_in 1 = .ok (.lload_n 2, 1) := by decide +kernel
theorem dX12_in_2 : decode cX12_in 2 = .ok (.lcmp, 1) := by decide +kernel
theorem dX12_in_3 : decode cX12_in 3 = .ok (.ifCond .lt 14, 3) := by decide +kernel
theorem dX12_in_6 : decode cX12_in 6 = .ok (.lload_n 0, 1) := by decide +kernel
theorem dX12_in_7 : decode cX12_in 7 = .ok (.lload 4, 2) := by decide +kernel
theorem dX12_in_9 : decode cX12_in 9 = .ok (.lcmp, 1) := by decide +kernel
theorem dX12_in_10 : decode cX12_in 10 = .ok (.ifCond .gt 7, 3) := by decide +kernel
theorem dX12_in_13 : decode cX12_in 13 = .ok (.iconst 1, 1) := by decide +kernel
theorem dX12_in_14 : decode cX12_in 14 = .ok (.goto 4, 3) := by decide +kernel
theorem dX12_in_17 : decode cX12_in 17 = .ok (.iconst 0, 1) := by decide +kernel
theorem dX12_in_18 : decode cX12_in 18 = .ok (.ireturn, 1) := by decide +kernel
theorem dX12_found_0 : decode cX12_found 0 = .ok (.aload_n 0, 1) := by decide +kernel
theorem dX12_found_1 : decode cX12_found 1 = .ok (.iload_n 1, 1) := by decide +kernel
theorem dX12_found_2 : decode cX12_found 2 = .ok (.putfield 82, 3) := by decide +kernel
theorem dX12_found_5 : decode cX12_found 5 = .ok (.ldc 85, 2) := by decide +kernel
theorem dX12_found_7 : decode cX12_found 7 = .ok (.iload_n 1, 1) := by decide +kernel
theorem dX12_found_8 : decode cX12_found 8 = .ok (.isub, 1) := by decide +kernel
theorem dX12_found_9 : decode cX12_found 9 = .ok (.ireturn, 1) := by decide +kernel
theorem dX12_isRow_0 : decode cX12_isRow 0 = .ok (.iload_n 0, 1) := by decide +kernel
theorem dX12_isRow_1 : decode cX12_isRow 1 = .ok (.i2l, 1) := by decide +kernel
theorem dX12_isRow_2 : decode cX12_isRow 2 = .ok (.lconst 0, 1) := by decide +kernel
theorem dX12_isRow_3 : decode cX12_isRow 3 = .ok (.ldc2_w 86, 3) := by decide +kernel
theorem dX12_isRow_6 : decode cX12_isRow 6 = .ok (.invokestatic 88, 3) := by decide +kernel
theorem dX12_isRow_9 : decode cX12_isRow 9 = .ok (.ireturn, 1) := by decide +kernel
theorem dX12_row_0 : decode cX12_row 0 = .ok (.aload_n 0, 1) := by decide +kernel
theorem dX12_row_1 : decode cX12_row 1 = .ok (.iconst 0, 1) := by decide +kernel
theorem dX12_row_2 : decode cX12_row 2 = .ok (.putfield 78, 3) := by decide +kernel
theorem dX12_row_5 : decode cX12_row 5 = .ok (.iload_n 1, 1) := by decide +kernel
theorem dX12_row_6 : decode cX12_row 6 = .ok (.invokestatic 92, 3) := by decide +kernel
theorem dX12_row_9 : decode cX12_row 9 = .ok (.ifCond .eq 21, 3) := by decide +kernel
theorem dX12_row_12 : decode cX12_row 12 = .ok (.iload_n 2, 1) := by decide +kernel
theorem dX12_row_13 : decode cX12_row 13 = .ok (.i2l, 1) := by decide +kernel
theorem dX12_row_14 : decode cX12_row 14 = .ok (.lconst 0, 1) := by decide +kernel
theorem dX12_row_15 : decode cX12_row 15 = .ok (.ldc2_w 96, 3) := by decide +kernel
theorem dX12_row_18 : decode cX12_row 18 = .ok (.invokestatic 88, 3) := by decide +kernel
theorem dX12_row_21 : decode cX12_row 21 = .ok (.ifCond .eq 9, 3) := by decide +kernel
theorem dX12_row_24 : decode cX12_row 24 = .ok (.iload_n 3, 1) := by decide +kernel
theorem dX12_row_25 : decode cX12_row 25 = .ok (.bipush 96, 2) := by decide +kernel
theorem dX12_row_27 : decode cX12_row 27 = .ok (.if_icmp .le 6, 3) := by decide +kernel
theorem dX12_row_30 : decode cX12_row 30 = .ok (.ldc 98, 2) := by decide +kernel
theorem dX12_row_32 : decode cX12_row 32 = .ok (.ireturn, 1) := by decide +kernel
theorem dX12_row_33 : decode cX12_row 33 = .ok (.aload_n 0, 1) := by decide +kernel
theorem dX12_row_34 : decode cX12_row 34 = .ok (.iconst 0, 1) := by decide +kernel
theorem dX12_row_35 : decode cX12_row 35 = .ok (.putfield 82, 3) := by decide +kernel
theorem dX12_row_38 : decode cX12_row 38 = .ok (.iload_n 3, 1) := by decide +kernel
theorem dX12_row_39 : decode cX12_row 39 = .ok (.ifCond .ge 9, 3) := by decide +kernel
theorem dX12_row_42 : decode cX12_row 42 = .ok (.aload_n 0, 1) := by decide +kernel
theorem dX12_row_43 : decode cX12_row 43 = .ok (.iconst 4, 1) := by decide +kernel
theorem dX12_row_44 : decode cX12_row 44 = .ok (.invokevirtual 99, 3) := by decide +kernel
theorem dX12_row_47 : decode cX12_row 47 = .ok (.ireturn, 1) := by decide +kernel
theorem dX12_row_48 : decode cX12_row 48 = .ok (.aload_n 0, 1) := by decide +kernel
theorem dX12_row_49 : decode cX12_row 49 = .ok (.getfield 7, 3) := by decide +kernel
theorem dX12_row_52 : decode cX12_row 52 = .ok (.iload_n 1, 1) := by decide +kernel
theorem dX12_row_53 : decode cX12_row 53 = .ok (.iload_n 2, 1) := by decide +kernel
theorem dX12_row_54 : decode cX12_row 54 = .ok (.iastore, 1) := by decide +kernel
theorem dX12_row_55 : decode cX12_row 55 = .ok (.aload_n 0, 1) := by decide +kernel
theorem dX12_row_56 : decode cX12_row 56 = .ok (.getfield 13, 3) := by decide +kernel
theorem dX12_row_59 : decode cX12_row 59 = .ok (.iload_n 1, 1) := by decide +kernel
theorem dX12_row_60 : decode cX12_row 60 = .ok (.iload_n 3, 1) := by decide +kernel
theorem dX12_row_61 : decode cX12_row 61 = .ok (.iastore, 1) := by decide +kernel
theorem dX12_row_62 : decode cX12_row 62 = .ok (.iconst 0, 1) := by decide +kernel
theorem dX12_row_63 : decode cX12_row 63 = .ok (.istore 4, 2) := by decide +kernel
theorem dX12_row_65 : decode cX12_row 65 = .ok (.iload 4, 2) := by decide +kernel
theorem dX12_row_67 : decode cX12_row 67 = .ok (.bipush 96, 2) := by decide +kernel
theorem dX12_row_69 : decode cX12_row 69 = .ok (.if_icmp .ge 22, 3) := by decide +kernel
theorem dX12_row_72 : decode cX12_row 72 = .ok (.aload_n 0, 1) := by decide +kernel
theorem dX12_row_73 : decode cX12_row 73 = .ok (.getfield 16, 3) := by decide +kernel
theorem dX12_row_76 : decode cX12_row 76 = .ok (.bipush 96, 2) := by decide +kernel
theorem dX12_row_78 : decode cX12_row 78 = .ok (.iload_n 1, 1) := by decide +kernel
theorem dX12_row_79 : decode cX12_row 79 = .ok (.imul, 1) := by decide +kernel
theorem dX12_row_80 : decode cX12_row 80 = .ok (.iload 4, 2) := by decide +kernel
theorem dX12_row_82 : decode cX12_row 82 = .ok (.iadd, 1) := by decide +kernel
theorem dX12_row_83 : decode cX12_row 83 = .ok (.iconst 0, 1) := by decide +kernel
theorem dX12_row_84 : decode cX12_row 84 = .ok (.iastore, 1) := by decide +kernel
theorem dX12_row_85 : decode cX12_row 85 = .ok (.iinc 4 1, 3) := by decide +kernel
theorem dX12_row_88 : decode cX12_row 88 = .ok (.goto (-23), 3) := by decide +kernel
theorem dX12_row_91 : decode cX12_row 91 = .ok (.iload_n 3, 1) := by decide +kernel
theorem dX12_row_92 : decode cX12_row 92 = .ok (.ireturn, 1) := by decide +kernel
theorem dX12_set_0 : decode cX12_set 0 = .ok (.aload_n 0, 1) := by decide +kernel
theorem dX12_set_1 : decode cX12_set 1 = .ok (.iconst 0, 1) := by decide +kernel
theorem dX12_set_2 : decode cX12_set 2 = .ok (.putfield 78, 3) := by decide +kernel
theorem dX12_set_5 : decode cX12_set 5 = .ok (.iload_n 1, 1) := by decide +kernel
theorem dX12_set_6 : decode cX12_set 6 = .ok (.invokestatic 92, 3) := by decide +kernel
theorem dX12_set_9 : decode cX12_set 9 = .ok (.ifCond .ne 6, 3) := by decide +kernel
theorem dX12_set_12 : decode cX12_set 12 = .ok (.ldc 98, 2) := by decide +kernel
theorem dX12_set_14 : decode cX12_set 14 = .ok (.ireturn, 1) := by decide +kernel
theorem dX12_set_15 : decode cX12_set 15 = .ok (.aload_n 0, 1) := by decide +kernel
theorem dX12_set_16 : decode cX12_set 16 = .ok (.iconst 0, 1) := by decide +kernel
theorem dX12_set_17 : decode cX12_set 17 = .ok (.putfield 82, 3) := by decide +kernel
theorem dX12_set_20 : decode cX12_set 20 = .ok (.aload_n 0, 1) := by decide +kernel
theorem dX12_set_21 : decode cX12_set 21 = .ok (.getfield 7, 3) := by decide +kernel
theorem dX12_set_24 : decode cX12_set 24 = .ok (.iload_n 1, 1) := by decide +kernel
theorem dX12_set_25 : decode cX12_set 25 = .ok (.iaload, 1) := by decide +kernel
theorem dX12_set_26 : decode cX12_set 26 = .ok (.ifCond .ge 9, 3) := by decide +kernel
theorem dX12_set_29 : decode cX12_set 29 = .ok (.aload_n 0, 1) := by decide +kernel
theorem dX12_set_30 : decode cX12_set 30 = .ok (.iconst 1, 1) := by decide +kernel
theorem dX12_set_31 : decode cX12_set 31 = .ok (.invokevirtual 99, 3) := by decide +kernel
theorem dX12_set_34 : decode cX12_set 34 = .ok (.ireturn, 1) := by decide +kernel
theorem dX12_set_35 : decode cX12_set 35 = .ok (.iload_n 2, 1) := by decide +kernel
theorem dX12_set_36 : decode cX12_set 36 = .ok (.i2l, 1) := by decide +kernel
theorem dX12_set_37 : decode cX12_set 37 = .ok (.lconst 0, 1) := by decide +kernel
theorem dX12_set_38 : decode cX12_set 38 = .ok (.aload_n 0, 1) := by decide +kernel
theorem dX12_set_39 : decode cX12_set 39 = .ok (.getfield 13, 3) := by decide +kernel
theorem dX12_set_42 : decode cX12_set 42 = .ok (.iload_n 1, 1) := by decide +kernel
theorem dX12_set_43 : decode cX12_set 43 = .ok (.iaload, 1) := by decide +kernel
theorem dX12_set_44 : decode cX12_set 44 = .ok (.iconst 1, 1) := by decide +kernel
theorem dX12_set_45 : decode cX12_set 45 = .ok (.isub, 1) := by decide +kernel
theorem dX12_set_46 : decode cX12_set 46 = .ok (.i2l, 1) := by decide +kernel
theorem dX12_set_47 : decode cX12_set 47 = .ok (.invokestatic 88, 3) := by decide +kernel
theorem dX12_set_50 : decode cX12_set 50 = .ok (.ifCond .ne 9, 3) := by decide +kernel
theorem dX12_set_53 : decode cX12_set 53 = .ok (.aload_n 0, 1) := by decide +kernel
theorem dX12_set_54 : decode cX12_set 54 = .ok (.iconst 2, 1) := by decide +kernel
theorem dX12_set_55 : decode cX12_set 55 = .ok (.invokevirtual 99, 3) := by decide +kernel
theorem dX12_set_58 : decode cX12_set 58 = .ok (.ireturn, 1) := by decide +kernel
theorem dX12_set_59 : decode cX12_set 59 = .ok (.aload_n 0, 1) := by decide +kernel
theorem dX12_set_60 : decode cX12_set 60 = .ok (.getfield 16, 3) := by decide +kernel
theorem dX12_set_63 : decode cX12_set 63 = .ok (.bipush 96, 2) := by decide +kernel
theorem dX12_set_65 : decode cX12_set 65 = .ok (.iload_n 1, 1) := by decide +kernel
theorem dX12_set_66 : decode cX12_set 66 = .ok (.imul, 1) := by decide +kernel
theorem dX12_set_67 : decode cX12_set 67 = .ok (.iload_n 2, 1) := by decide +kernel
theorem dX12_set_68 : decode cX12_set 68 = .ok (.iadd, 1) := by decide +kernel
theorem dX12_set_69 : decode cX12_set 69 = .ok (.aload_n 0, 1) := by decide +kernel
theorem dX12_set_70 : decode cX12_set 70 = .ok (.getfield 7, 3) := by decide +kernel
theorem dX12_set_73 : decode cX12_set 73 = .ok (.iload_n 1, 1) := by decide +kernel
theorem dX12_set_74 : decode cX12_set 74 = .ok (.iaload, 1) := by decide +kernel
theorem dX12_set_75 : decode cX12_set 75 = .ok (.ifCond .ne 8, 3) := by decide +kernel
theorem dX12_set_78 : decode cX12_set 78 = .ok (.iload_n 3, 1) := by decide +kernel
theorem dX12_set_79 : decode cX12_set 79 = .ok (.i2b, 1) := by decide +kernel
theorem dX12_set_80 : decode cX12_set 80 = .ok (.goto 19, 3) := by decide +kernel
theorem dX12_set_83 : decode cX12_set 83 = .ok (.aload_n 0, 1) := by decide +kernel
theorem dX12_set_84 : decode cX12_set 84 = .ok (.getfield 7, 3) := by decide +kernel
theorem dX12_set_87 : decode cX12_set 87 = .ok (.iload_n 1, 1) := by decide +kernel
theorem dX12_set_88 : decode cX12_set 88 = .ok (.iaload, 1) := by decide +kernel
theorem dX12_set_89 : decode cX12_set 89 = .ok (.iconst 1, 1) := by decide +kernel
theorem dX12_set_90 : decode cX12_set 90 = .ok (.if_icmp .ne 8, 3) := by decide +kernel
theorem dX12_set_93 : decode cX12_set 93 = .ok (.iload_n 3, 1) := by decide +kernel
theorem dX12_set_94 : decode cX12_set 94 = .ok (.i2s, 1) := by decide +kernel
theorem dX12_set_95 : decode cX12_set 95 = .ok (.goto 4, 3) := by decide +kernel
theorem dX12_set_98 : decode cX12_set 98 = .ok (.iload_n 3, 1) := by decide +kernel
theorem dX12_set_99 : decode cX12_set 99 = .ok (.iastore, 1) := by decide +kernel
theorem dX12_set_100 : decode cX12_set 100 = .ok (.aload_n 0, 1) := by decide +kernel
theorem dX12_set_101 : decode cX12_set 101 = .ok (.getfield 16, 3) := by decide +kernel
theorem dX12_set_104 : decode cX12_set 104 = .ok (.bipush 96, 2) := by decide +kernel
theorem dX12_set_106 : decode cX12_set 106 = .ok (.iload_n 1, 1) := by decide +kernel
theorem dX12_set_107 : decode cX12_set 107 = .ok (.imul, 1) := by decide +kernel
theorem dX12_set_108 : decode cX12_set 108 = .ok (.iload_n 2, 1) := by decide +kernel
theorem dX12_set_109 : decode cX12_set 109 = .ok (.iadd, 1) := by decide +kernel
theorem dX12_set_110 : decode cX12_set 110 = .ok (.iaload, 1) := by decide +kernel
theorem dX12_set_111 : decode cX12_set 111 = .ok (.ireturn, 1) := by decide +kernel
theorem dX12_copy_0 : decode cX12_copy 0 = .ok (.aload_n 0, 1) := by decide +kernel
theorem dX12_copy_1 : decode cX12_copy 1 = .ok (.iconst 0, 1) := by decide +kernel
theorem dX12_copy_2 : decode cX12_copy 2 = .ok (.putfield 78, 3) := by decide +kernel
theorem dX12_copy_5 : decode cX12_copy 5 = .ok (.iload_n 1, 1) := by decide +kernel
theorem dX12_copy_6 : decode cX12_copy 6 = .ok (.invokestatic 92, 3) := by decide +kernel
theorem dX12_copy_9 : decode cX12_copy 9 = .ok (.ifCond .eq 10, 3) := by decide +kernel
theorem dX12_copy_12 : decode cX12_copy 12 = .ok (.iload_n 3, 1) := by decide +kernel
theorem dX12_copy_13 : decode cX12_copy 13 = .ok (.invokestatic 92, 3) := by decide +kernel
theorem dX12_copy_16 : decode cX12_copy 16 = .ok (.ifCond .ne 6, 3) := by decide +kernel
theorem dX12_copy_19 : decode cX12_copy 19 = .ok (.ldc 98, 2) := by decide +kernel
theorem dX12_copy_21 : decode cX12_copy 21 = .ok (.ireturn, 1) := by decide +kernel
theorem dX12_copy_22 : decode cX12_copy 22 = .ok (.aload_n 0, 1) := by decide +kernel
theorem dX12_copy_23 : decode cX12_copy 23 = .ok (.iconst 0, 1) := by decide +kernel
theorem dX12_copy_24 : decode cX12_copy 24 = .ok (.putfield 82, 3) := by decide +kernel
theorem dX12_copy_27 : decode cX12_copy 27 = .ok (.aload_n 0, 1) := by decide +kernel
theorem dX12_copy_28 : decode cX12_copy 28 = .ok (.getfield 7, 3) := by decide +kernel
theorem dX12_copy_31 : decode cX12_copy 31 = .ok (.iload_n 1, 1) := by decide +kernel
theorem dX12_copy_32 : decode cX12_copy 32 = .ok (.iaload, 1) := by decide +kernel
theorem dX12_copy_33 : decode cX12_copy 33 = .ok (.ifCond .lt 12, 3) := by decide +kernel
theorem dX12_copy_36 : decode cX12_copy 36 = .ok (.aload_n 0, 1) := by decide +kernel
theorem dX12_copy_37 : decode cX12_copy 37 = .ok (.getfield 7, 3) := by decide +kernel
theorem dX12_copy_40 : decode cX12_copy 40 = .ok (.iload_n 3, 1) := by decide +kernel
theorem dX12_copy_41 : decode cX12_copy 41 = .ok (.iaload, 1) := by decide +kernel
theorem dX12_copy_42 : decode cX12_copy 42 = .ok (.ifCond .ge 9, 3) := by decide +kernel
theorem dX12_copy_45 : decode cX12_copy 45 = .ok (.aload_n 0, 1) := by decide +kernel
theorem dX12_copy_46 : decode cX12_copy 46 = .ok (.iconst 1, 1) := by decide +kernel
theorem dX12_copy_47 : decode cX12_copy 47 = .ok (.invokevirtual 99, 3) := by decide +kernel
theorem dX12_copy_50 : decode cX12_copy 50 = .ok (.ireturn, 1) := by decide +kernel
theorem dX12_copy_51 : decode cX12_copy 51 = .ok (.aload_n 0, 1) := by decide +kernel
theorem dX12_copy_52 : decode cX12_copy 52 = .ok (.getfield 7, 3) := by decide +kernel
theorem dX12_copy_55 : decode cX12_copy 55 = .ok (.iload_n 1, 1) := by decide +kernel
theorem dX12_copy_56 : decode cX12_copy 56 = .ok (.iaload, 1) := by decide +kernel
theorem dX12_copy_57 : decode cX12_copy 57 = .ok (.aload_n 0, 1) := by decide +kernel
theorem dX12_copy_58 : decode cX12_copy 58 = .ok (.getfield 7, 3) := by decide +kernel
theorem dX12_copy_61 : decode cX12_copy 61 = .ok (.iload_n 3, 1) := by decide +kernel
theorem dX12_copy_62 : decode cX12_copy 62 = .ok (.iaload, 1) := by decide +kernel
theorem dX12_copy_63 : decode cX12_copy 63 = .ok (.if_icmp .eq 9, 3) := by decide +kernel
theorem dX12_copy_66 : decode cX12_copy 66 = .ok (.aload_n 0, 1) := by decide +kernel
theorem dX12_copy_67 : decode cX12_copy 67 = .ok (.iconst 5, 1) := by decide +kernel
theorem dX12_copy_68 : decode cX12_copy 68 = .ok (.invokevirtual 99, 3) := by decide +kernel
theorem dX12_copy_71 : decode cX12_copy 71 = .ok (.ireturn, 1) := by decide +kernel
theorem dX12_copy_72 : decode cX12_copy 72 = .ok (.iload_n 2, 1) := by decide +kernel
theorem dX12_copy_73 : decode cX12_copy 73 = .ok (.ifCond .lt 48, 3) := by decide +kernel
theorem dX12_copy_76 : decode cX12_copy 76 = .ok (.iload 4, 2) := by decide +kernel
theorem dX12_copy_78 : decode cX12_copy 78 = .ok (.ifCond .lt 43, 3) := by decide +kernel
theorem dX12_copy_81 : decode cX12_copy 81 = .ok (.iload 5, 2) := by decide +kernel
theorem dX12_copy_83 : decode cX12_copy 83 = .ok (.ifCond .lt 38, 3) := by decide +kernel
theorem dX12_copy_86 : decode cX12_copy 86 = .ok (.iload_n 2, 1) := by decide +kernel
theorem dX12_copy_87 : decode cX12_copy 87 = .ok (.i2l, 1) := by decide +kernel
theorem dX12_copy_88 : decode cX12_copy 88 = .ok (.iload 5, 2) := by decide +kernel
theorem dX12_copy_90 : decode cX12_copy 90 = .ok (.i2l, 1) := by decide +kernel
theorem dX12_copy_91 : decode cX12_copy 91 = .ok (.ladd, 1) := by decide +kernel
theorem dX12_copy_92 : decode cX12_copy 92 = .ok (.aload_n 0, 1) := by decide +kernel
theorem dX12_copy_93 : decode cX12_copy 93 = .ok (.getfield 13, 3) := by decide +kernel
theorem dX12_copy_96 : decode cX12_copy 96 = .ok (.iload_n 1, 1) := by decide +kernel
theorem dX12_copy_97 : decode cX12_copy 97 = .ok (.iaload, 1) := by decide +kernel
theorem dX12_copy_98 : decode cX12_copy 98 = .ok (.i2l, 1) := by decide +kernel
theorem dX12_copy_99 : decode cX12_copy 99 = .ok (.lcmp, 1) := by decide +kernel
theorem dX12_copy_100 : decode cX12_copy 100 = .ok (.ifCond .gt 21, 3) := by decide +kernel
theorem dX12_copy_103 : decode cX12_copy 103 = .ok (.iload 4, 2) := by decide +kernel
theorem dX12_copy_105 : decode cX12_copy 105 = .ok (.i2l, 1) := by decide +kernel
theorem dX12_copy_106 : decode cX12_copy 106 = .ok (.iload 5, 2) := by decide +kernel
theorem dX12_copy_108 : decode cX12_copy 108 = .ok (.i2l, 1) := by decide +kernel
theorem dX12_copy_109 : decode cX12_copy 109 = .ok (.ladd, 1) := by decide +kernel
theorem dX12_copy_110 : decode cX12_copy 110 = .ok (.aload_n 0, 1) := by decide +kernel
theorem dX12_copy_111 : decode cX12_copy 111 = .ok (.getfield 13, 3) := by decide +kernel
theorem dX12_copy_114 : decode cX12_copy 114 = .ok (.iload_n 3, 1) := by decide +kernel
theorem dX12_copy_115 : decode cX12_copy 115 = .ok (.iaload, 1) := by decide +kernel
theorem dX12_copy_116 : decode cX12_copy 116 = .ok (.i2l, 1) := by decide +kernel
theorem dX12_copy_117 : decode cX12_copy 117 = .ok (.lcmp, 1) := by decide +kernel
theorem dX12_copy_118 : decode cX12_copy 118 = .ok (.ifCond .le 9, 3) := by decide +kernel
theorem dX12_copy_121 : decode cX12_copy 121 = .ok (.aload_n 0, 1) := by decide +kernel
theorem dX12_copy_122 : decode cX12_copy 122 = .ok (.iconst 2, 1) := by decide +kernel
theorem dX12_copy_123 : decode cX12_copy 123 = .ok (.invokevirtual 99, 3) := by decide +kernel
theorem dX12_copy_126 : decode cX12_copy 126 = .ok (.ireturn, 1) := by decide +kernel
theorem dX12_copy_127 : decode cX12_copy 127 = .ok (.iload_n 2, 1) := by decide +kernel
theorem dX12_copy_128 : decode cX12_copy 128 = .ok (.iload 4, 2) := by decide +kernel
theorem dX12_copy_130 : decode cX12_copy 130 = .ok (.if_icmp .lt 7, 3) := by decide +kernel
theorem dX12_copy_133 : decode cX12_copy 133 = .ok (.iconst 1, 1) := by decide +kernel
theorem dX12_copy_134 : decode cX12_copy 134 = .ok (.goto 4, 3) := by decide +kernel
theorem dX12_copy_137 : decode cX12_copy 137 = .ok (.iconst 0, 1) := by decide +kernel
theorem dX12_copy_138 : decode cX12_copy 138 = .ok (.istore 6, 2) := by decide +kernel
theorem dX12_copy_140 : decode cX12_copy 140 = .ok (.iconst 0, 1) := by decide +kernel
theorem dX12_copy_141 : decode cX12_copy 141 = .ok (.istore 7, 2) := by decide +kernel
theorem dX12_copy_143 : decode cX12_copy 143 = .ok (.iload 7, 2) := by decide +kernel
theorem dX12_copy_145 : decode cX12_copy 145 = .ok (.iload 5, 2) := by decide +kernel
theorem dX12_copy_147 : decode cX12_copy 147 = .ok (.if_icmp .ge 57, 3) := by decide +kernel
theorem dX12_copy_150 : decode cX12_copy 150 = .ok (.iload 6, 2) := by decide +kernel
theorem dX12_copy_152 : decode cX12_copy 152 = .ok (.ifCond .eq 8, 3) := by decide +kernel
theorem dX12_copy_155 : decode cX12_copy 155 = .ok (.iload 7, 2) := by decide +kernel
theorem dX12_copy_157 : decode cX12_copy 157 = .ok (.goto 10, 3) := by decide +kernel
theorem dX12_copy_160 : decode cX12_copy 160 = .ok (.iload 5, 2) := by decide +kernel
theorem dX12_copy_162 : decode cX12_copy 162 = .ok (.iconst 1, 1) := by decide +kernel
theorem dX12_copy_163 : decode cX12_copy 163 = .ok (.isub, 1) := by decide +kernel
theorem dX12_copy_164 : decode cX12_copy 164 = .ok (.iload 7, 2) := by decide +kernel
theorem dX12_copy_166 : decode cX12_copy 166 = .ok (.isub, 1) := by decide +kernel
theorem dX12_copy_167 : decode cX12_copy 167 = .ok (.istore 8, 2) := by decide +kernel
theorem dX12_copy_169 : decode cX12_copy 169 = .ok (.aload_n 0, 1) := by decide +kernel
theorem dX12_copy_170 : decode cX12_copy 170 = .ok (.getfield 16, 3) := by decide +kernel
theorem dX12_copy_173 : decode cX12_copy 173 = .ok (.bipush 96, 2) := by decide +kernel
theorem dX12_copy_175 : decode cX12_copy 175 = .ok (.iload_n 3, 1) := by decide +kernel
theorem dX12_copy_176 : decode cX12_copy 176 = .ok (.imul, 1) := by decide +kernel
theorem dX12_copy_177 : decode cX12_copy 177 = .ok (.iload 4, 2) := by decide +kernel
theorem dX12_copy_179 : decode cX12_copy 179 = .ok (.iadd, 1) := by decide +kernel
theorem dX12_copy_180 : decode cX12_copy 180 = .ok (.iload 8, 2) := by decide +kernel
theorem dX12_copy_182 : decode cX12_copy 182 = .ok (.iadd, 1) := by decide +kernel
theorem dX12_copy_183 : decode cX12_copy 183 = .ok (.aload_n 0, 1) := by decide +kernel
theorem dX12_copy_184 : decode cX12_copy 184 = .ok (.getfield 16, 3) := by decide +kernel
theorem dX12_copy_187 : decode cX12_copy 187 = .ok (.bipush 96, 2) := by decide +kernel
theorem dX12_copy_189 : decode cX12_copy 189 = .ok (.iload_n 1, 1) := by decide +kernel
theorem dX12_copy_190 : decode cX12_copy 190 = .ok (.imul, 1) := by decide +kernel
theorem dX12_copy_191 : decode cX12_copy 191 = .ok (.iload_n 2, 1) := by decide +kernel
theorem dX12_copy_192 : decode cX12_copy 192 = .ok (.iadd, 1) := by decide +kernel
theorem dX12_copy_193 : decode cX12_copy 193 = .ok (.iload 8, 2) := by decide +kernel
theorem dX12_copy_195 : decode cX12_copy 195 = .ok (.iadd, 1) := by decide +kernel
theorem dX12_copy_196 : decode cX12_copy 196 = .ok (.iaload, 1) := by decide +kernel
theorem dX12_copy_197 : decode cX12_copy 197 = .ok (.iastore, 1) := by decide +kernel
theorem dX12_copy_198 : decode cX12_copy 198 = .ok (.iinc 7 1, 3) := by decide +kernel
theorem dX12_copy_201 : decode cX12_copy 201 = .ok (.goto (-58), 3) := by decide +kernel
theorem dX12_copy_204 : decode cX12_copy 204 = .ok (.iload 5, 2) := by decide +kernel
theorem dX12_copy_206 : decode cX12_copy 206 = .ok (.ireturn, 1) := by decide +kernel
theorem dX12_drop_0 : decode cX12_drop 0 = .ok (.aload_n 0, 1) := by decide +kernel
theorem dX12_drop_1 : decode cX12_drop 1 = .ok (.iconst 0, 1) := by decide +kernel
theorem dX12_drop_2 : decode cX12_drop 2 = .ok (.putfield 78, 3) := by decide +kernel
theorem dX12_drop_5 : decode cX12_drop 5 = .ok (.iload_n 1, 1) := by decide +kernel
theorem dX12_drop_6 : decode cX12_drop 6 = .ok (.invokestatic 92, 3) := by decide +kernel
theorem dX12_drop_9 : decode cX12_drop 9 = .ok (.ifCond .ne 6, 3) := by decide +kernel
theorem dX12_drop_12 : decode cX12_drop 12 = .ok (.ldc 98, 2) := by decide +kernel
theorem dX12_drop_14 : decode cX12_drop 14 = .ok (.ireturn, 1) := by decide +kernel
theorem dX12_drop_15 : decode cX12_drop 15 = .ok (.aload_n 0, 1) := by decide +kernel
theorem dX12_drop_16 : decode cX12_drop 16 = .ok (.iconst 0, 1) := by decide +kernel
theorem dX12_drop_17 : decode cX12_drop 17 = .ok (.putfield 82, 3) := by decide +kernel
theorem dX12_drop_20 : decode cX12_drop 20 = .ok (.aload_n 0, 1) := by decide +kernel
theorem dX12_drop_21 : decode cX12_drop 21 = .ok (.getfield 7, 3) := by decide +kernel
theorem dX12_drop_24 : decode cX12_drop 24 = .ok (.iload_n 1, 1) := by decide +kernel
theorem dX12_drop_25 : decode cX12_drop 25 = .ok (.iaload, 1) := by decide +kernel
theorem dX12_drop_26 : decode cX12_drop 26 = .ok (.ifCond .ge 9, 3) := by decide +kernel
theorem dX12_drop_29 : decode cX12_drop 29 = .ok (.aload_n 0, 1) := by decide +kernel
theorem dX12_drop_30 : decode cX12_drop 30 = .ok (.iconst 1, 1) := by decide +kernel
theorem dX12_drop_31 : decode cX12_drop 31 = .ok (.invokevirtual 99, 3) := by decide +kernel
theorem dX12_drop_34 : decode cX12_drop 34 = .ok (.ireturn, 1) := by decide +kernel
theorem dX12_drop_35 : decode cX12_drop 35 = .ok (.aload_n 0, 1) := by decide +kernel
theorem dX12_drop_36 : decode cX12_drop 36 = .ok (.getfield 7, 3) := by decide +kernel
theorem dX12_drop_39 : decode cX12_drop 39 = .ok (.iload_n 1, 1) := by decide +kernel
theorem dX12_drop_40 : decode cX12_drop 40 = .ok (.iconst (-1), 1) := by decide +kernel
theorem dX12_drop_41 : decode cX12_drop 41 = .ok (.iastore, 1) := by decide +kernel
theorem dX12_drop_42 : decode cX12_drop 42 = .ok (.aload_n 0, 1) := by decide +kernel
theorem dX12_drop_43 : decode cX12_drop 43 = .ok (.getfield 13, 3) := by decide +kernel
theorem dX12_drop_46 : decode cX12_drop 46 = .ok (.iload_n 1, 1) := by decide +kernel
theorem dX12_drop_47 : decode cX12_drop 47 = .ok (.iaload, 1) := by decide +kernel
theorem dX12_drop_48 : decode cX12_drop 48 = .ok (.ireturn, 1) := by decide +kernel
theorem dX12_isPlace_0 : decode cX12_isPlace 0 = .ok (.iload_n 0, 1) := by decide +kernel
theorem dX12_isPlace_1 : decode cX12_isPlace 1 = .ok (.i2l, 1) := by decide +kernel
theorem dX12_isPlace_2 : decode cX12_isPlace 2 = .ok (.lconst 0, 1) := by decide +kernel
theorem dX12_isPlace_3 : decode cX12_isPlace 3 = .ok (.ldc2_w 103, 3) := by decide +kernel
theorem dX12_isPlace_6 : decode cX12_isPlace 6 = .ok (.invokestatic 88, 3) := by decide +kernel
theorem dX12_isPlace_9 : decode cX12_isPlace 9 = .ok (.ireturn, 1) := by decide +kernel
theorem dX12_at_0 : decode cX12_at 0 = .ok (.aload_n 0, 1) := by decide +kernel
theorem dX12_at_1 : decode cX12_at 1 = .ok (.getfield 25, 3) := by decide +kernel
theorem dX12_at_4 : decode cX12_at 4 = .ok (.bipush 96, 2) := by decide +kernel
theorem dX12_at_6 : decode cX12_at 6 = .ok (.iload_n 1, 1) := by decide +kernel
theorem dX12_at_7 : decode cX12_at 7 = .ok (.imul, 1) := by decide +kernel
theorem dX12_at_8 : decode cX12_at 8 = .ok (.bipush 12, 2) := by decide +kernel
theorem dX12_at_10 : decode cX12_at 10 = .ok (.iload_n 2, 1) := by decide +kernel
theorem dX12_at_11 : decode cX12_at 11 = .ok (.imul, 1) := by decide +kernel
theorem dX12_at_12 : decode cX12_at 12 = .ok (.iadd, 1) := by decide +kernel
theorem dX12_at_13 : decode cX12_at 13 = .ok (.iload_n 3, 1) := by decide +kernel
theorem dX12_at_14 : decode cX12_at 14 = .ok (.iadd, 1) := by decide +kernel
theorem dX12_at_15 : decode cX12_at 15 = .ok (.iaload, 1) := by decide +kernel
theorem dX12_at_16 : decode cX12_at 16 = .ok (.ireturn, 1) := by decide +kernel
theorem dX12_put_0 : decode cX12_put 0 = .ok (.aload_n 0, 1) := by decide +kernel
theorem dX12_put_1 : decode cX12_put 1 = .ok (.getfield 25, 3) := by decide +kernel
theorem dX12_put_4 : decode cX12_put 4 = .ok (.bipush 96, 2) := by decide +kernel
theorem dX12_put_6 : decode cX12_put 6 = .ok (.iload_n 1, 1) := by decide +kernel
theorem dX12_put_7 : decode cX12_put 7 = .ok (.imul, 1) := by decide +kernel
theorem dX12_put_8 : decode cX12_put 8 = .ok (.bipush 12, 2) := by decide +kernel
theorem dX12_put_10 : decode cX12_put 10 = .ok (.iload_n 2, 1) := by decide +kernel
theorem dX12_put_11 : decode cX12_put 11 = .ok (.imul, 1) := by decide +kernel
theorem dX12_put_12 : decode cX12_put 12 = .ok (.iadd, 1) := by decide +kernel
theorem dX12_put_13 : decode cX12_put 13 = .ok (.iload_n 3, 1) := by decide +kernel
theorem dX12_put_14 : decode cX12_put 14 = .ok (.iadd, 1) := by decide +kernel
theorem dX12_put_15 : decode cX12_put 15 = .ok (.iload 4, 2) := by decide +kernel
theorem dX12_put_17 : decode cX12_put 17 = .ok (.iastore, 1) := by decide +kernel
theorem dX12_put_18 : decode cX12_put 18 = .ok (.return_, 1) := by decide +kernel
theorem dX12_backAt_0 : decode cX12_backAt 0 = .ok (.iconst 0, 1) := by decide +kernel
theorem dX12_backAt_1 : decode cX12_backAt 1 = .ok (.istore 4, 2) := by decide +kernel
theorem dX12_backAt_3 : decode cX12_backAt 3 = .ok (.aload_n 0, 1) := by decide +kernel
theorem dX12_backAt_4 : decode cX12_backAt 4 = .ok (.iload_n 1, 1) := by decide +kernel
theorem dX12_backAt_5 : decode cX12_backAt 5 = .ok (.iload_n 2, 1) := by decide +kernel
theorem dX12_backAt_6 : decode cX12_backAt 6 = .ok (.iload 4, 2) := by decide +kernel
theorem dX12_backAt_8 : decode cX12_backAt 8 = .ok (.invokevirtual 105, 3) := by decide +kernel
theorem dX12_backAt_11 : decode cX12_backAt 11 = .ok (.iload_n 3, 1) := by decide +kernel
theorem dX12_backAt_12 : decode cX12_backAt 12 = .ok (.if_icmp .eq 9, 3) := by decide +kernel
theorem dX12_backAt_15 : decode cX12_backAt 15 = .ok (.iinc 4 1, 3) := by decide +kernel
theorem dX12_backAt_18 : decode cX12_backAt 18 = .ok (.goto (-15), 3) := by decide +kernel
theorem dX12_backAt_21 : decode cX12_backAt 21 = .ok (.iload 4, 2) := by decide +kernel
theorem dX12_backAt_23 : decode cX12_backAt 23 = .ok (.ireturn, 1) := by decide +kernel
theorem dX12_become_0 : decode cX12_become 0 = .ok (.aload_n 0, 1) := by decide +kernel
theorem dX12_become_1 : decode cX12_become 1 = .ok (.getfield 19, 3) := by decide +kernel
theorem dX12_become_4 : decode cX12_become 4 = .ok (.iload_n 1, 1) := by decide +kernel
theorem dX12_become_5 : decode cX12_become 5 = .ok (.aload_n 0, 1) := by decide +kernel
theorem dX12_become_6 : decode cX12_become 6 = .ok (.getfield 19, 3) := by decide +kernel
theorem dX12_become_9 : decode cX12_become 9 = .ok (.iload_n 2, 1) := by decide +kernel
theorem dX12_become_10 : decode cX12_become 10 = .ok (.iaload, 1) := by decide +kernel
theorem dX12_become_11 : decode cX12_become 11 = .ok (.iastore, 1) := by decide +kernel
theorem dX12_become_12 : decode cX12_become 12 = .ok (.aload_n 0, 1) := by decide +kernel
theorem dX12_become_13 : decode cX12_become 13 = .ok (.getfield 22, 3) := by decide +kernel
theorem dX12_become_16 : decode cX12_become 16 = .ok (.iload_n 1, 1) := by decide +kernel
theorem dX12_become_17 : decode cX12_become 17 = .ok (.aload_n 0, 1) := by decide +kernel
theorem dX12_become_18 : decode cX12_become 18 = .ok (.getfield 22, 3) := by decide +kernel
theorem dX12_become_21 : decode cX12_become 21 = .ok (.iload_n 2, 1) := by decide +kernel
theorem dX12_become_22 : decode cX12_become 22 = .ok (.iaload, 1) := by decide +kernel
theorem dX12_become_23 : decode cX12_become 23 = .ok (.iastore, 1) := by decide +kernel
theorem dX12_become_24 : decode cX12_become 24 = .ok (.iconst 0, 1) := by decide +kernel
theorem dX12_become_25 : decode cX12_become 25 = .ok (.istore_n 3, 1) := by decide +kernel
theorem dX12_become_26 : decode cX12_become 26 = .ok (.iload_n 3, 1) := by decide +kernel
theorem dX12_become_27 : decode cX12_become 27 = .ok (.bipush 96, 2) := by decide +kernel
theorem dX12_become_29 : decode cX12_become 29 = .ok (.if_icmp .ge 31, 3) := by decide +kernel
theorem dX12_become_32 : decode cX12_become 32 = .ok (.aload_n 0, 1) := by decide +kernel
theorem dX12_become_33 : decode cX12_become 33 = .ok (.getfield 25, 3) := by decide +kernel
theorem dX12_become_36 : decode cX12_become 36 = .ok (.bipush 96, 2) := by decide +kernel
theorem dX12_become_38 : decode cX12_become 38 = .ok (.iload_n 1, 1) := by decide +kernel
theorem dX12_become_39 : decode cX12_become 39 = .ok (.imul, 1) := by decide +kernel
theorem dX12_become_40 : decode cX12_become 40 = .ok (.iload_n 3, 1) := by decide +kernel
theorem dX12_become_41 : decode cX12_become 41 = .ok (.iadd, 1) := by decide +kernel
theorem dX12_become_42 : decode cX12_become 42 = .ok (.aload_n 0, 1) := by decide +kernel
theorem dX12_become_43 : decode cX12_become 43 = .ok (.getfield 25, 3) := by decide +kernel
theorem dX12_become_46 : decode cX12_become 46 = .ok (.bipush 96, 2) := by decide +kernel
theorem dX12_become_48 : decode cX12_become 48 = .ok (.iload_n 2, 1) := by decide +kernel
theorem dX12_become_49 : decode cX12_become 49 = .ok (.imul, 1) := by decide +kernel
theorem dX12_become_50 : decode cX12_become 50 = .ok (.iload_n 3, 1) := by decide +kernel
theorem dX12_become_51 : decode cX12_become 51 = .ok (.iadd, 1) := by decide +kernel
theorem dX12_become_52 : decode cX12_become 52 = .ok (.iaload, 1) := by decide +kernel
theorem dX12_become_53 : decode cX12_become 53 = .ok (.iastore, 1) := by decide +kernel
theorem dX12_become_54 : decode cX12_become 54 = .ok (.iinc 3 1, 3) := by decide +kernel
theorem dX12_become_57 : decode cX12_become 57 = .ok (.goto (-31), 3) := by decide +kernel
theorem dX12_become_60 : decode cX12_become 60 = .ok (.return_, 1) := by decide +kernel
theorem dX12_rounds_0 : decode cX12_rounds 0 = .ok (.aload_n 0, 1) := by decide +kernel
theorem dX12_rounds_1 : decode cX12_rounds 1 = .ok (.getfield 19, 3) := by decide +kernel
theorem dX12_rounds_4 : decode cX12_rounds 4 = .ok (.iload_n 1, 1) := by decide +kernel
theorem dX12_rounds_5 : decode cX12_rounds 5 = .ok (.iaload, 1) := by decide +kernel
theorem dX12_rounds_6 : decode cX12_rounds 6 = .ok (.istore_n 3, 1) := by decide +kernel
theorem dX12_rounds_7 : decode cX12_rounds 7 = .ok (.iconst 0, 1) := by decide +kernel
theorem dX12_rounds_8 : decode cX12_rounds 8 = .ok (.istore 4, 2) := by decide +kernel
theorem dX12_rounds_10 : decode cX12_rounds 10 = .ok (.iload 4, 2) := by decide +kernel
theorem dX12_rounds_12 : decode cX12_rounds 12 = .ok (.iload_n 3, 1) := by decide +kernel
theorem dX12_rounds_13 : decode cX12_rounds 13 = .ok (.if_icmp .ge 17, 3) := by decide +kernel
theorem dX12_rounds_16 : decode cX12_rounds 16 = .ok (.aload_n 0, 1) := by decide +kernel
theorem dX12_rounds_17 : decode cX12_rounds 17 = .ok (.getfield 28, 3) := by decide +kernel
theorem dX12_rounds_20 : decode cX12_rounds 20 = .ok (.iload 4, 2) := by decide +kernel
theorem dX12_rounds_22 : decode cX12_rounds 22 = .ok (.iconst 0, 1) := by decide +kernel
theorem dX12_rounds_23 : decode cX12_rounds 23 = .ok (.bastore, 1) := by decide +kernel
theorem dX12_rounds_24 : decode cX12_rounds 24 = .ok (.iinc 4 1, 3) := by decide +kernel
theorem dX12_rounds_27 : decode cX12_rounds 27 = .ok (.goto (-17), 3) := by decide +kernel
theorem dX12_rounds_30 : decode cX12_rounds 30 = .ok (.iconst 0, 1) := by decide +kernel
theorem dX12_rounds_31 : decode cX12_rounds 31 = .ok (.istore 4, 2) := by decide +kernel
theorem dX12_rounds_33 : decode cX12_rounds 33 = .ok (.iconst 0, 1) := by decide +kernel
theorem dX12_rounds_34 : decode cX12_rounds 34 = .ok (.istore 5, 2) := by decide +kernel
theorem dX12_rounds_36 : decode cX12_rounds 36 = .ok (.iload 5, 2) := by decide +kernel
theorem dX12_rounds_38 : decode cX12_rounds 38 = .ok (.iload_n 3, 1) := by decide +kernel
theorem dX12_rounds_39 : decode cX12_rounds 39 = .ok (.if_icmp .ge 117, 3) := by decide +kernel
theorem dX12_rounds_42 : decode cX12_rounds 42 = .ok (.aload_n 0, 1) := by decide +kernel
theorem dX12_rounds_43 : decode cX12_rounds 43 = .ok (.getfield 28, 3) := by decide +kernel
theorem dX12_rounds_46 : decode cX12_rounds 46 = .ok (.iload 5, 2) := by decide +kernel
theorem dX12_rounds_48 : decode cX12_rounds 48 = .ok (.baload, 1) := by decide +kernel
theorem dX12_rounds_49 : decode cX12_rounds 49 = .ok (.ifCond .ne 101, 3) := by decide +kernel
theorem dX12_rounds_52 : decode cX12_rounds 52 = .ok (.iconst 0, 1) := by decide +kernel
theorem dX12_rounds_53 : decode cX12_rounds 53 = .ok (.istore 6, 2) := by decide +kernel
theorem dX12_rounds_55 : decode cX12_rounds 55 = .ok (.iload 5, 2) := by decide +kernel
theorem dX12_rounds_57 : decode cX12_rounds 57 = .ok (.istore 7, 2) := by decide +kernel
theorem dX12_rounds_59 : decode cX12_rounds 59 = .ok (.aload_n 0, 1) := by decide +kernel
theorem dX12_rounds_60 : decode cX12_rounds 60 = .ok (.getfield 28, 3) := by decide +kernel
theorem dX12_rounds_63 : decode cX12_rounds 63 = .ok (.iload 7, 2) := by decide +kernel
theorem dX12_rounds_65 : decode cX12_rounds 65 = .ok (.baload, 1) := by decide +kernel
theorem dX12_rounds_66 : decode cX12_rounds 66 = .ok (.ifCond .ne 27, 3) := by decide +kernel
theorem dX12_rounds_69 : decode cX12_rounds 69 = .ok (.aload_n 0, 1) := by decide +kernel
theorem dX12_rounds_70 : decode cX12_rounds 70 = .ok (.getfield 28, 3) := by decide +kernel
theorem dX12_rounds_73 : decode cX12_rounds 73 = .ok (.iload 7, 2) := by decide +kernel
theorem dX12_rounds_75 : decode cX12_rounds 75 = .ok (.iconst 1, 1) := by decide +kernel
theorem dX12_rounds_76 : decode cX12_rounds 76 = .ok (.bastore, 1) := by decide +kernel
theorem dX12_rounds_77 : decode cX12_rounds 77 = .ok (.iinc 6 1, 3) := by decide +kernel
theorem dX12_rounds_80 : decode cX12_rounds 80 = .ok (.aload_n 0, 1) := by decide +kernel
theorem dX12_rounds_81 : decode cX12_rounds 81 = .ok (.iload_n 1, 1) := by decide +kernel
theorem dX12_rounds_82 : decode cX12_rounds 82 = .ok (.iload_n 2, 1) := by decide +kernel
theorem dX12_rounds_83 : decode cX12_rounds 83 = .ok (.iload 7, 2) := by decide +kernel
theorem dX12_rounds_85 : decode cX12_rounds 85 = .ok (.invokevirtual 105, 3) := by decide +kernel
theorem dX12_rounds_88 : decode cX12_rounds 88 = .ok (.istore 7, 2) := by decide +kernel
theorem dX12_rounds_90 : decode cX12_rounds 90 = .ok (.goto (-31), 3) := by decide +kernel
theorem dX12_rounds_93 : decode cX12_rounds 93 = .ok (.iload 4, 2) := by decide +kernel
theorem dX12_rounds_95 : decode cX12_rounds 95 = .ok (.istore 7, 2) := by decide +kernel
theorem dX12_rounds_97 : decode cX12_rounds 97 = .ok (.iload 7, 2) := by decide +kernel
theorem dX12_rounds_99 : decode cX12_rounds 99 = .ok (.ifCond .le 39, 3) := by decide +kernel
theorem dX12_rounds_102 : decode cX12_rounds 102 = .ok (.aload_n 0, 1) := by decide +kernel
theorem dX12_rounds_103 : decode cX12_rounds 103 = .ok (.getfield 32, 3) := by decide +kernel
theorem dX12_rounds_106 : decode cX12_rounds 106 = .ok (.iload 7, 2) := by decide +kernel
theorem dX12_rounds_108 : decode cX12_rounds 108 = .ok (.iconst 1, 1) := by decide +kernel
theorem dX12_rounds_109 : decode cX12_rounds 109 = .ok (.isub, 1) := by decide +kernel
theorem dX12_rounds_110 : decode cX12_rounds 110 = .ok (.iaload, 1) := by decide +kernel
theorem dX12_rounds_111 : decode cX12_rounds 111 = .ok (.iload 6, 2) := by decide +kernel
theorem dX12_rounds_113 : decode cX12_rounds 113 = .ok (.if_icmp .ge 25, 3) := by decide +kernel
theorem dX12_rounds_116 : decode cX12_rounds 116 = .ok (.aload_n 0, 1) := by decide +kernel
theorem dX12_rounds_117 : decode cX12_rounds 117 = .ok (.getfield 32, 3) := by decide +kernel
theorem dX12_rounds_120 : decode cX12_rounds 120 = .ok (.iload 7, 2) := by decide +kernel
theorem dX12_rounds_122 : decode cX12_rounds 122 = .ok (.aload_n 0, 1) := by decide +kernel
theorem dX12_rounds_123 : decode cX12_rounds 123 = .ok (.getfield 32, 3) := by decide +kernel
theorem dX12_rounds_126 : decode cX12_rounds 126 = .ok (.iload 7, 2) := by decide +kernel
theorem dX12_rounds_128 : decode cX12_rounds 128 = .ok (.iconst 1, 1) := by decide +kernel
theorem dX12_rounds_129 : decode cX12_rounds 129 = .ok (.isub, 1) := by decide +kernel
theorem dX12_rounds_130 : decode cX12_rounds 130 = .ok (.iaload, 1) := by decide +kernel
theorem dX12_rounds_131 : decode cX12_rounds 131 = .ok (.iastore, 1) := by decide +kernel
theorem dX12_rounds_132 : decode cX12_rounds 132 = .ok (.iinc 7 (-1), 3) := by decide +kernel
theorem dX12_rounds_135 : decode cX12_rounds 135 = .ok (.goto (-38), 3) := by decide +kernel
theorem dX12_rounds_138 : decode cX12_rounds 138 = .ok (.aload_n 0, 1) := by decide +kernel
theorem dX12_rounds_139 : decode cX12_rounds 139 = .ok (.getfield 32, 3) := by decide +kernel
theorem dX12_rounds_142 : decode cX12_rounds 142 = .ok (.iload 7, 2) := by decide +kernel
theorem dX12_rounds_144 : decode cX12_rounds 144 = .ok (.iload 6, 2) := by decide +kernel
theorem dX12_rounds_146 : decode cX12_rounds 146 = .ok (.iastore, 1) := by decide +kernel
theorem dX12_rounds_147 : decode cX12_rounds 147 = .ok (.iinc 4 1, 3) := by decide +kernel
theorem dX12_rounds_150 : decode cX12_rounds 150 = .ok (.iinc 5 1, 3) := by decide +kernel
theorem dX12_rounds_153 : decode cX12_rounds 153 = .ok (.goto (-117), 3) := by decide +kernel
theorem dX12_rounds_156 : decode cX12_rounds 156 = .ok (.iload 4, 2) := by decide +kernel
theorem dX12_rounds_158 : decode cX12_rounds 158 = .ok (.ireturn, 1) := by decide +kernel
theorem dX12_parts_0 : decode cX12_parts 0 = .ok (.aload_n 0, 1) := by decide +kernel
theorem dX12_parts_1 : decode cX12_parts 1 = .ok (.getfield 19, 3) := by decide +kernel
theorem dX12_parts_4 : decode cX12_parts 4 = .ok (.iload_n 1, 1) := by decide +kernel
theorem dX12_parts_5 : decode cX12_parts 5 = .ok (.iaload, 1) := by decide +kernel
theorem dX12_parts_6 : decode cX12_parts 6 = .ok (.istore_n 2, 1) := by decide +kernel
theorem dX12_parts_7 : decode cX12_parts 7 = .ok (.iconst 0, 1) := by decide +kernel
theorem dX12_parts_8 : decode cX12_parts 8 = .ok (.istore_n 3, 1) := by decide +kernel
theorem dX12_parts_9 : decode cX12_parts 9 = .ok (.iload_n 3, 1) := by decide +kernel
theorem dX12_parts_10 : decode cX12_parts 10 = .ok (.iload_n 2, 1) := by decide +kernel
theorem dX12_parts_11 : decode cX12_parts 11 = .ok (.if_icmp .ge 16, 3) := by decide +kernel
theorem dX12_parts_14 : decode cX12_parts 14 = .ok (.aload_n 0, 1) := by decide +kernel
theorem dX12_parts_15 : decode cX12_parts 15 = .ok (.getfield 35, 3) := by decide +kernel
theorem dX12_parts_18 : decode cX12_parts 18 = .ok (.iload_n 3, 1) := by decide +kernel
theorem dX12_parts_19 : decode cX12_parts 19 = .ok (.iconst (-1), 1) := by decide +kernel
theorem dX12_parts_20 : decode cX12_parts 20 = .ok (.iastore, 1) := by decide +kernel
theorem dX12_parts_21 : decode cX12_parts 21 = .ok (.iinc 3 1, 3) := by decide +kernel
theorem dX12_parts_24 : decode cX12_parts 24 = .ok (.goto (-15), 3) := by decide +kernel
theorem dX12_parts_27 : decode cX12_parts 27 = .ok (.iconst 0, 1) := by decide +kernel
theorem dX12_parts_28 : decode cX12_parts 28 = .ok (.istore_n 3, 1) := by decide +kernel
theorem dX12_parts_29 : decode cX12_parts 29 = .ok (.iconst 0, 1) := by decide +kernel
theorem dX12_parts_30 : decode cX12_parts 30 = .ok (.istore 4, 2) := by decide +kernel
theorem dX12_parts_32 : decode cX12_parts 32 = .ok (.iload 4, 2) := by decide +kernel
theorem dX12_parts_34 : decode cX12_parts 34 = .ok (.iload_n 2, 1) := by decide +kernel
theorem dX12_parts_35 : decode cX12_parts 35 = .ok (.if_icmp .ge 123, 3) := by decide +kernel
theorem dX12_parts_38 : decode cX12_parts 38 = .ok (.aload_n 0, 1) := by decide +kernel
theorem dX12_parts_39 : decode cX12_parts 39 = .ok (.getfield 35, 3) := by decide +kernel
theorem dX12_parts_42 : decode cX12_parts 42 = .ok (.iload 4, 2) := by decide +kernel
theorem dX12_parts_44 : decode cX12_parts 44 = .ok (.iaload, 1) := by decide +kernel
theorem dX12_parts_45 : decode cX12_parts 45 = .ok (.ifCond .ge 107, 3) := by decide +kernel
theorem dX12_parts_48 : decode cX12_parts 48 = .ok (.aload_n 0, 1) := by decide +kernel
theorem dX12_parts_49 : decode cX12_parts 49 = .ok (.getfield 35, 3) := by decide +kernel
theorem dX12_parts_52 : decode cX12_parts 52 = .ok (.iload 4, 2) := by decide +kernel
theorem dX12_parts_54 : decode cX12_parts 54 = .ok (.iload_n 3, 1) := by decide +kernel
theorem dX12_parts_55 : decode cX12_parts 55 = .ok (.iastore, 1) := by decide +kernel
theorem dX12_parts_56 : decode cX12_parts 56 = .ok (.iconst 1, 1) := by decide +kernel
theorem dX12_parts_57 : decode cX12_parts 57 = .ok (.istore 5, 2) := by decide +kernel
theorem dX12_parts_59 : decode cX12_parts 59 = .ok (.iload 5, 2) := by decide +kernel
theorem dX12_parts_61 : decode cX12_parts 61 = .ok (.ifCond .eq 88, 3) := by decide +kernel
theorem dX12_parts_64 : decode cX12_parts 64 = .ok (.iconst 0, 1) := by decide +kernel
theorem dX12_parts_65 : decode cX12_parts 65 = .ok (.istore 5, 2) := by decide +kernel
theorem dX12_parts_67 : decode cX12_parts 67 = .ok (.iconst 0, 1) := by decide +kernel
theorem dX12_parts_68 : decode cX12_parts 68 = .ok (.istore 6, 2) := by decide +kernel
theorem dX12_parts_70 : decode cX12_parts 70 = .ok (.iload 6, 2) := by decide +kernel
theorem dX12_parts_72 : decode cX12_parts 72 = .ok (.iload_n 2, 1) := by decide +kernel
theorem dX12_parts_73 : decode cX12_parts 73 = .ok (.if_icmp .ge 73, 3) := by decide +kernel
theorem dX12_parts_76 : decode cX12_parts 76 = .ok (.iconst 0, 1) := by decide +kernel
theorem dX12_parts_77 : decode cX12_parts 77 = .ok (.istore 7, 2) := by decide +kernel
theorem dX12_parts_79 : decode cX12_parts 79 = .ok (.iload 7, 2) := by decide +kernel
theorem dX12_parts_81 : decode cX12_parts 81 = .ok (.aload_n 0, 1) := by decide +kernel
theorem dX12_parts_82 : decode cX12_parts 82 = .ok (.getfield 22, 3) := by decide +kernel
theorem dX12_parts_85 : decode cX12_parts 85 = .ok (.iload_n 1, 1) := by decide +kernel
theorem dX12_parts_86 : decode cX12_parts 86 = .ok (.iaload, 1) := by decide +kernel
theorem dX12_parts_87 : decode cX12_parts 87 = .ok (.if_icmp .ge 53, 3) := by decide +kernel
theorem dX12_parts_90 : decode cX12_parts 90 = .ok (.aload_n 0, 1) := by decide +kernel
theorem dX12_parts_91 : decode cX12_parts 91 = .ok (.iload_n 1, 1) := by decide +kernel
theorem dX12_parts_92 : decode cX12_parts 92 = .ok (.iload 7, 2) := by decide +kernel
theorem dX12_parts_94 : decode cX12_parts 94 = .ok (.iload 6, 2) := by decide +kernel
theorem dX12_parts_96 : decode cX12_parts 96 = .ok (.invokevirtual 105, 3) := by decide +kernel
theorem dX12_parts_99 : decode cX12_parts 99 = .ok (.istore 8, 2) := by decide +kernel
theorem dX12_parts_101 : decode cX12_parts 101 = .ok (.aload_n 0, 1) := by decide +kernel
theorem dX12_parts_102 : decode cX12_parts 102 = .ok (.getfield 35, 3) := by decide +kernel
theorem dX12_parts_105 : decode cX12_parts 105 = .ok (.iload 6, 2) := by decide +kernel
theorem dX12_parts_107 : decode cX12_parts 107 = .ok (.iaload, 1) := by decide +kernel
theorem dX12_parts_108 : decode cX12_parts 108 = .ok (.iload_n 3, 1) := by decide +kernel
theorem dX12_parts_109 : decode cX12_parts 109 = .ok (.if_icmp .ne 25, 3) := by decide +kernel
theorem dX12_parts_112 : decode cX12_parts 112 = .ok (.aload_n 0, 1) := by decide +kernel
theorem dX12_parts_113 : decode cX12_parts 113 = .ok (.getfield 35, 3) := by decide +kernel
theorem dX12_parts_116 : decode cX12_parts 116 = .ok (.iload 8, 2) := by decide +kernel
theorem dX12_parts_118 : decode cX12_parts 118 = .ok (.iaload, 1) := by decide +kernel
theorem dX12_parts_119 : decode cX12_parts 119 = .ok (.iload_n 3, 1) := by decide +kernel
theorem dX12_parts_120 : decode cX12_parts 120 = .ok (.if_icmp .eq 14, 3) := by decide +kernel
theorem dX12_parts_123 : decode cX12_parts 123 = .ok (.aload_n 0, 1) := by decide +kernel
theorem dX12_parts_124 : decode cX12_parts 124 = .ok (.getfield 35, 3) := by decide +kernel
theorem dX12_parts_127 : decode cX12_parts 127 = .ok (.iload 8, 2) := by decide +kernel
theorem dX12_parts_129 : decode cX12_parts 129 = .ok (.iload_n 3, 1) := by decide +kernel
theorem dX12_parts_130 : decode cX12_parts 130 = .ok (.iastore, 1) := by decide +kernel
theorem dX12_parts_131 : decode cX12_parts 131 = .ok (.iconst 1, 1) := by decide +kernel
theorem dX12_parts_132 : decode cX12_parts 132 = .ok (.istore 5, 2) := by decide +kernel
theorem dX12_parts_134 : decode cX12_parts 134 = .ok (.iinc 7 1, 3) := by decide +kernel
theorem dX12_parts_137 : decode cX12_parts 137 = .ok (.goto (-58), 3) := by decide +kernel
theorem dX12_parts_140 : decode cX12_parts 140 = .ok (.iinc 6 1, 3) := by decide +kernel
theorem dX12_parts_143 : decode cX12_parts 143 = .ok (.goto (-73), 3) := by decide +kernel
theorem dX12_parts_146 : decode cX12_parts 146 = .ok (.goto (-87), 3) := by decide +kernel
theorem dX12_parts_149 : decode cX12_parts 149 = .ok (.iinc 3 1, 3) := by decide +kernel
theorem dX12_parts_152 : decode cX12_parts 152 = .ok (.iinc 4 1, 3) := by decide +kernel
theorem dX12_parts_155 : decode cX12_parts 155 = .ok (.goto (-123), 3) := by decide +kernel
theorem dX12_parts_158 : decode cX12_parts 158 = .ok (.iload_n 3, 1) := by decide +kernel
theorem dX12_parts_159 : decode cX12_parts 159 = .ok (.ireturn, 1) := by decide +kernel
theorem dX12_kindOf_0 : decode cX12_kindOf 0 = .ok (.aload_n 0, 1) := by decide +kernel
theorem dX12_kindOf_1 : decode cX12_kindOf 1 = .ok (.getfield 19, 3) := by decide +kernel
theorem dX12_kindOf_4 : decode cX12_kindOf 4 = .ok (.iload_n 1, 1) := by decide +kernel
theorem dX12_kindOf_5 : decode cX12_kindOf 5 = .ok (.iaload, 1) := by decide +kernel
theorem dX12_kindOf_6 : decode cX12_kindOf 6 = .ok (.istore_n 2, 1) := by decide +kernel
theorem dX12_kindOf_7 : decode cX12_kindOf 7 = .ok (.aload_n 0, 1) := by decide +kernel
theorem dX12_kindOf_8 : decode cX12_kindOf 8 = .ok (.getfield 22, 3) := by decide +kernel
theorem dX12_kindOf_11 : decode cX12_kindOf 11 = .ok (.iload_n 1, 1) := by decide +kernel
theorem dX12_kindOf_12 : decode cX12_kindOf 12 = .ok (.iaload, 1) := by decide +kernel
theorem dX12_kindOf_13 : decode cX12_kindOf 13 = .ok (.istore_n 3, 1) := by decide +kernel
theorem dX12_kindOf_14 : decode cX12_kindOf 14 = .ok (.iload_n 3, 1) := by decide +kernel
theorem dX12_kindOf_15 : decode cX12_kindOf 15 = .ok (.iconst 3, 1) := by decide +kernel
theorem dX12_kindOf_16 : decode cX12_kindOf 16 = .ok (.if_icmp .ne 90, 3) := by decide +kernel
theorem dX12_kindOf_19 : decode cX12_kindOf 19 = .ok (.iconst 1, 1) := by decide +kernel
theorem dX12_kindOf_20 : decode cX12_kindOf 20 = .ok (.istore 4, 2) := by decide +kernel
theorem dX12_kindOf_22 : decode cX12_kindOf 22 = .ok (.iconst 0, 1) := by decide +kernel
theorem dX12_kindOf_23 : decode cX12_kindOf 23 = .ok (.istore 5, 2) := by decide +kernel
theorem dX12_kindOf_25 : decode cX12_kindOf 25 = .ok (.iload 5, 2) := by decide +kernel
theorem dX12_kindOf_27 : decode cX12_kindOf 27 = .ok (.iload_n 2, 1) := by decide +kernel
theorem dX12_kindOf_28 : decode cX12_kindOf 28 = .ok (.if_icmp .ge 53, 3) := by decide +kernel
theorem dX12_kindOf_31 : decode cX12_kindOf 31 = .ok (.iload 4, 2) := by decide +kernel
theorem dX12_kindOf_33 : decode cX12_kindOf 33 = .ok (.ifCond .eq 39, 3) := by decide +kernel
theorem dX12_kindOf_36 : decode cX12_kindOf 36 = .ok (.aload_n 0, 1) := by decide +kernel
theorem dX12_kindOf_37 : decode cX12_kindOf 37 = .ok (.iload_n 1, 1) := by decide +kernel
theorem dX12_kindOf_38 : decode cX12_kindOf 38 = .ok (.iconst 2, 1) := by decide +kernel
theorem dX12_kindOf_39 : decode cX12_kindOf 39 = .ok (.iload 5, 2) := by decide +kernel
theorem dX12_kindOf_41 : decode cX12_kindOf 41 = .ok (.invokevirtual 105, 3) := by decide +kernel
theorem dX12_kindOf_44 : decode cX12_kindOf 44 = .ok (.iload 5, 2) := by decide +kernel
theorem dX12_kindOf_46 : decode cX12_kindOf 46 = .ok (.if_icmp .eq 26, 3) := by decide +kernel
theorem dX12_kindOf_49 : decode cX12_kindOf 49 = .ok (.aload_n 0, 1) := by decide +kernel
theorem dX12_kindOf_50 : decode cX12_kindOf 50 = .ok (.iload_n 1, 1) := by decide +kernel
theorem dX12_kindOf_51 : decode cX12_kindOf 51 = .ok (.iconst 2, 1) := by decide +kernel
theorem dX12_kindOf_52 : decode cX12_kindOf 52 = .ok (.aload_n 0, 1) := by decide +kernel
theorem dX12_kindOf_53 : decode cX12_kindOf 53 = .ok (.iload_n 1, 1) := by decide +kernel
theorem dX12_kindOf_54 : decode cX12_kindOf 54 = .ok (.iconst 2, 1) := by decide +kernel
theorem dX12_kindOf_55 : decode cX12_kindOf 55 = .ok (.iload 5, 2) := by decide +kernel
theorem dX12_kindOf_57 : decode cX12_kindOf 57 = .ok (.invokevirtual 105, 3) := by decide +kernel
theorem dX12_kindOf_60 : decode cX12_kindOf 60 = .ok (.invokevirtual 105, 3) := by decide +kernel
theorem dX12_kindOf_63 : decode cX12_kindOf 63 = .ok (.iload 5, 2) := by decide +kernel
theorem dX12_kindOf_65 : decode cX12_kindOf 65 = .ok (.if_icmp .ne 7, 3) := by decide +kernel
theorem dX12_kindOf_68 : decode cX12_kindOf 68 = .ok (.iconst 1, 1) := by decide +kernel
theorem dX12_kindOf_69 : decode cX12_kindOf 69 = .ok (.goto 4, 3) := by decide +kernel
theorem dX12_kindOf_72 : decode cX12_kindOf 72 = .ok (.iconst 0, 1) := by decide +kernel
theorem dX12_kindOf_73 : decode cX12_kindOf 73 = .ok (.istore 4, 2) := by decide +kernel
theorem dX12_kindOf_75 : decode cX12_kindOf 75 = .ok (.iinc 5 1, 3) := by decide +kernel
theorem dX12_kindOf_78 : decode cX12_kindOf 78 = .ok (.goto (-53), 3) := by decide +kernel
theorem dX12_kindOf_81 : decode cX12_kindOf 81 = .ok (.iload 4, 2) := by decide +kernel
theorem dX12_kindOf_83 : decode cX12_kindOf 83 = .ok (.ifCond .eq 21, 3) := by decide +kernel
theorem dX12_kindOf_86 : decode cX12_kindOf 86 = .ok (.aload_n 0, 1) := by decide +kernel
theorem dX12_kindOf_87 : decode cX12_kindOf 87 = .ok (.iload_n 1, 1) := by decide +kernel
theorem dX12_kindOf_88 : decode cX12_kindOf 88 = .ok (.iconst 1, 1) := by decide +kernel
theorem dX12_kindOf_89 : decode cX12_kindOf 89 = .ok (.invokevirtual 109, 3) := by decide +kernel
theorem dX12_kindOf_92 : decode cX12_kindOf 92 = .ok (.iconst 1, 1) := by decide +kernel
theorem dX12_kindOf_93 : decode cX12_kindOf 93 = .ok (.if_icmp .ne 7, 3) := by decide +kernel
theorem dX12_kindOf_96 : decode cX12_kindOf 96 = .ok (.iconst 4, 1) := by decide +kernel
theorem dX12_kindOf_97 : decode cX12_kindOf 97 = .ok (.goto 8, 3) := by decide +kernel
theorem dX12_kindOf_100 : decode cX12_kindOf 100 = .ok (.iconst 3, 1) := by decide +kernel
theorem dX12_kindOf_101 : decode cX12_kindOf 101 = .ok (.goto 4, 3) := by decide +kernel
theorem dX12_kindOf_104 : decode cX12_kindOf 104 = .ok (.iconst 2, 1) := by decide +kernel
theorem dX12_kindOf_105 : decode cX12_kindOf 105 = .ok (.ireturn, 1) := by decide +kernel
theorem dX12_kindOf_106 : decode cX12_kindOf 106 = .ok (.iload_n 3, 1) := by decide +kernel
theorem dX12_kindOf_107 : decode cX12_kindOf 107 = .ok (.iconst 1, 1) := by decide +kernel
theorem dX12_kindOf_108 : decode cX12_kindOf 108 = .ok (.if_icmp .le 7, 3) := by decide +kernel
theorem dX12_kindOf_111 : decode cX12_kindOf 111 = .ok (.iconst 1, 1) := by decide +kernel
theorem dX12_kindOf_112 : decode cX12_kindOf 112 = .ok (.goto 4, 3) := by decide +kernel
theorem dX12_kindOf_115 : decode cX12_kindOf 115 = .ok (.iconst 0, 1) := by decide +kernel
theorem dX12_kindOf_116 : decode cX12_kindOf 116 = .ok (.istore 4, 2) := by decide +kernel
theorem dX12_kindOf_118 : decode cX12_kindOf 118 = .ok (.iconst 0, 1) := by decide +kernel
theorem dX12_kindOf_119 : decode cX12_kindOf 119 = .ok (.istore 5, 2) := by decide +kernel
theorem dX12_kindOf_121 : decode cX12_kindOf 121 = .ok (.iload 5, 2) := by decide +kernel
theorem dX12_kindOf_123 : decode cX12_kindOf 123 = .ok (.iconst 1, 1) := by decide +kernel
theorem dX12_kindOf_124 : decode cX12_kindOf 124 = .ok (.iadd, 1) := by decide +kernel
theorem dX12_kindOf_125 : decode cX12_kindOf 125 = .ok (.iload_n 3, 1) := by decide +kernel
theorem dX12_kindOf_126 : decode cX12_kindOf 126 = .ok (.if_icmp .ge 38, 3) := by decide +kernel
theorem dX12_kindOf_129 : decode cX12_kindOf 129 = .ok (.aload_n 0, 1) := by decide +kernel
theorem dX12_kindOf_130 : decode cX12_kindOf 130 = .ok (.iload_n 1, 1) := by decide +kernel
theorem dX12_kindOf_131 : decode cX12_kindOf 131 = .ok (.iload 5, 2) := by decide +kernel
theorem dX12_kindOf_133 : decode cX12_kindOf 133 = .ok (.invokevirtual 109, 3) := by decide +kernel
theorem dX12_kindOf_136 : decode cX12_kindOf 136 = .ok (.istore 6, 2) := by decide +kernel
theorem dX12_kindOf_138 : decode cX12_kindOf 138 = .ok (.iload 4, 2) := by decide +kernel
theorem dX12_kindOf_140 : decode cX12_kindOf 140 = .ok (.ifCond .eq 15, 3) := by decide +kernel
theorem dX12_kindOf_143 : decode cX12_kindOf 143 = .ok (.iload 6, 2) := by decide +kernel
theorem dX12_kindOf_145 : decode cX12_kindOf 145 = .ok (.iload_n 2, 1) := by decide +kernel
theorem dX12_kindOf_146 : decode cX12_kindOf 146 = .ok (.iconst 1, 1) := by decide +kernel
theorem dX12_kindOf_147 : decode cX12_kindOf 147 = .ok (.isub, 1) := by decide +kernel
theorem dX12_kindOf_148 : decode cX12_kindOf 148 = .ok (.if_icmp .ne 7, 3) := by decide +kernel
theorem dX12_kindOf_151 : decode cX12_kindOf 151 = .ok (.iconst 1, 1) := by decide +kernel
theorem dX12_kindOf_152 : decode cX12_kindOf 152 = .ok (.goto 4, 3) := by decide +kernel
theorem dX12_kindOf_155 : decode cX12_kindOf 155 = .ok (.iconst 0, 1) := by decide +kernel
theorem dX12_kindOf_156 : decode cX12_kindOf 156 = .ok (.istore 4, 2) := by decide +kernel
theorem dX12_kindOf_158 : decode cX12_kindOf 158 = .ok (.iinc 5 1, 3) := by decide +kernel
theorem dX12_kindOf_161 : decode cX12_kindOf 161 = .ok (.goto (-40), 3) := by decide +kernel
theorem dX12_kindOf_164 : decode cX12_kindOf 164 = .ok (.iload 4, 2) := by decide +kernel
theorem dX12_kindOf_166 : decode cX12_kindOf 166 = .ok (.ifCond .eq 7, 3) := by decide +kernel
theorem dX12_kindOf_169 : decode cX12_kindOf 169 = .ok (.iconst 1, 1) := by decide +kernel
theorem dX12_kindOf_170 : decode cX12_kindOf 170 = .ok (.goto 4, 3) := by decide +kernel
theorem dX12_kindOf_173 : decode cX12_kindOf 173 = .ok (.iconst 0, 1) := by decide +kernel
theorem dX12_kindOf_174 : decode cX12_kindOf 174 = .ok (.ireturn, 1) := by decide +kernel
theorem dX12_lay_0 : decode cX12_lay 0 = .ok (.aload_n 0, 1) := by decide +kernel
theorem dX12_lay_1 : decode cX12_lay 1 = .ok (.iconst 0, 1) := by decide +kernel
theorem dX12_lay_2 : decode cX12_lay 2 = .ok (.putfield 82, 3) := by decide +kernel
theorem dX12_lay_5 : decode cX12_lay 5 = .ok (.aload_n 0, 1) := by decide +kernel
theorem dX12_lay_6 : decode cX12_lay 6 = .ok (.iload_n 1, 1) := by decide +kernel
theorem dX12_lay_7 : decode cX12_lay 7 = .ok (.bipush 10, 2) := by decide +kernel
theorem dX12_lay_9 : decode cX12_lay 9 = .ok (.invokevirtual 113, 3) := by decide +kernel
theorem dX12_lay_12 : decode cX12_lay 12 = .ok (.aload_n 0, 1) := by decide +kernel
theorem dX12_lay_13 : decode cX12_lay 13 = .ok (.iload_n 1, 1) := by decide +kernel
theorem dX12_lay_14 : decode cX12_lay 14 = .ok (.invokevirtual 117, 3) := by decide +kernel
theorem dX12_lay_17 : decode cX12_lay 17 = .ok (.ireturn, 1) := by decide +kernel
theorem dX12_cover_0 : decode cX12_cover 0 = .ok (.aload_n 0, 1) := by decide +kernel
theorem dX12_cover_1 : decode cX12_cover 1 = .ok (.iconst 0, 1) := by decide +kernel
theorem dX12_cover_2 : decode cX12_cover 2 = .ok (.putfield 78, 3) := by decide +kernel
theorem dX12_cover_5 : decode cX12_cover 5 = .ok (.iload_n 1, 1) := by decide +kernel
theorem dX12_cover_6 : decode cX12_cover 6 = .ok (.invokestatic 120, 3) := by decide +kernel
theorem dX12_cover_9 : decode cX12_cover 9 = .ok (.ifCond .eq 36, 3) := by decide +kernel
theorem dX12_cover_12 : decode cX12_cover 12 = .ok (.iload_n 2, 1) := by decide +kernel
theorem dX12_cover_13 : decode cX12_cover 13 = .ok (.invokestatic 92, 3) := by decide +kernel
theorem dX12_cover_16 : decode cX12_cover 16 = .ok (.ifCond .eq 29, 3) := by decide +kernel
theorem dX12_cover_19 : decode cX12_cover 19 = .ok (.iload 4, 2) := by decide +kernel
theorem dX12_cover_21 : decode cX12_cover 21 = .ok (.i2l, 1) := by decide +kernel
theorem dX12_cover_22 : decode cX12_cover 22 = .ok (.lconst 1, 1) := by decide +kernel
theorem dX12_cover_23 : decode cX12_cover 23 = .ok (.ldc2_w 123, 3) := by decide +kernel
theorem dX12_cover_26 : decode cX12_cover 26 = .ok (.invokestatic 88, 3) := by decide +kernel
theorem dX12_cover_29 : decode cX12_cover 29 = .ok (.ifCond .eq 16, 3) := by decide +kernel
theorem dX12_cover_32 : decode cX12_cover 32 = .ok (.iload 5, 2) := by decide +kernel
theorem dX12_cover_34 : decode cX12_cover 34 = .ok (.i2l, 1) := by decide +kernel
theorem dX12_cover_35 : decode cX12_cover 35 = .ok (.lconst 1, 1) := by decide +kernel
theorem dX12_cover_36 : decode cX12_cover 36 = .ok (.ldc2_w 125, 3) := by decide +kernel
theorem dX12_cover_39 : decode cX12_cover 39 = .ok (.invokestatic 88, 3) := by decide +kernel
theorem dX12_cover_42 : decode cX12_cover 42 = .ok (.ifCond .ne 6, 3) := by decide +kernel
theorem dX12_cover_45 : decode cX12_cover 45 = .ok (.ldc 98, 2) := by decide +kernel
theorem dX12_cover_47 : decode cX12_cover 47 = .ok (.ireturn, 1) := by decide +kernel
theorem dX12_cover_48 : decode cX12_cover 48 = .ok (.aload_n 0, 1) := by decide +kernel
theorem dX12_cover_49 : decode cX12_cover 49 = .ok (.getfield 7, 3) := by decide +kernel
theorem dX12_cover_52 : decode cX12_cover 52 = .ok (.iload_n 2, 1) := by decide +kernel
theorem dX12_cover_53 : decode cX12_cover 53 = .ok (.iaload, 1) := by decide +kernel
theorem dX12_cover_54 : decode cX12_cover 54 = .ok (.ifCond .ge 9, 3) := by decide +kernel
theorem dX12_cover_57 : decode cX12_cover 57 = .ok (.aload_n 0, 1) := by decide +kernel
theorem dX12_cover_58 : decode cX12_cover 58 = .ok (.iconst 1, 1) := by decide +kernel
theorem dX12_cover_59 : decode cX12_cover 59 = .ok (.invokevirtual 99, 3) := by decide +kernel
theorem dX12_cover_62 : decode cX12_cover 62 = .ok (.ireturn, 1) := by decide +kernel
theorem dX12_cover_63 : decode cX12_cover 63 = .ok (.iload_n 3, 1) := by decide +kernel
theorem dX12_cover_64 : decode cX12_cover 64 = .ok (.ifCond .lt 25, 3) := by decide +kernel
theorem dX12_cover_67 : decode cX12_cover 67 = .ok (.iload_n 3, 1) := by decide +kernel
theorem dX12_cover_68 : decode cX12_cover 68 = .ok (.i2l, 1) := by decide +kernel
theorem dX12_cover_69 : decode cX12_cover 69 = .ok (.iload 5, 2) := by decide +kernel
theorem dX12_cover_71 : decode cX12_cover 71 = .ok (.iconst 1, 1) := by decide +kernel
theorem dX12_cover_72 : decode cX12_cover 72 = .ok (.isub, 1) := by decide +kernel
theorem dX12_cover_73 : decode cX12_cover 73 = .ok (.iload 4, 2) := by decide +kernel
theorem dX12_cover_75 : decode cX12_cover 75 = .ok (.imul, 1) := by decide +kernel
theorem dX12_cover_76 : decode cX12_cover 76 = .ok (.i2l, 1) := by decide +kernel
theorem dX12_cover_77 : decode cX12_cover 77 = .ok (.ladd, 1) := by decide +kernel
theorem dX12_cover_78 : decode cX12_cover 78 = .ok (.aload_n 0, 1) := by decide +kernel
theorem dX12_cover_79 : decode cX12_cover 79 = .ok (.getfield 13, 3) := by decide +kernel
theorem dX12_cover_82 : decode cX12_cover 82 = .ok (.iload_n 2, 1) := by decide +kernel
theorem dX12_cover_83 : decode cX12_cover 83 = .ok (.iaload, 1) := by decide +kernel
theorem dX12_cover_84 : decode cX12_cover 84 = .ok (.i2l, 1) := by decide +kernel
theorem dX12_cover_85 : decode cX12_cover 85 = .ok (.lcmp, 1) := by decide +kernel
theorem dX12_cover_86 : decode cX12_cover 86 = .ok (.ifCond .le 9, 3) := by decide +kernel
theorem dX12_cover_89 : decode cX12_cover 89 = .ok (.aload_n 0, 1) := by decide +kernel
theorem dX12_cover_90 : decode cX12_cover 90 = .ok (.iconst 2, 1) := by decide +kernel
theorem dX12_cover_91 : decode cX12_cover 91 = .ok (.invokevirtual 99, 3) := by decide +kernel
theorem dX12_cover_94 : decode cX12_cover 94 = .ok (.ireturn, 1) := by decide +kernel
theorem dX12_cover_95 : decode cX12_cover 95 = .ok (.iconst 0, 1) := by decide +kernel
theorem dX12_cover_96 : decode cX12_cover 96 = .ok (.istore 6, 2) := by decide +kernel
theorem dX12_cover_98 : decode cX12_cover 98 = .ok (.iload 6, 2) := by decide +kernel
theorem dX12_cover_100 : decode cX12_cover 100 = .ok (.iconst 1, 1) := by decide +kernel
theorem dX12_cover_101 : decode cX12_cover 101 = .ok (.iadd, 1) := by decide +kernel
theorem dX12_cover_102 : decode cX12_cover 102 = .ok (.iload 5, 2) := by decide +kernel
theorem dX12_cover_104 : decode cX12_cover 104 = .ok (.if_icmp .ge 88, 3) := by decide +kernel
theorem dX12_cover_107 : decode cX12_cover 107 = .ok (.iconst 0, 1) := by decide +kernel
theorem dX12_cover_108 : decode cX12_cover 108 = .ok (.istore 7, 2) := by decide +kernel
theorem dX12_cover_110 : decode cX12_cover 110 = .ok (.iconst 0, 1) := by decide +kernel
theorem dX12_cover_111 : decode cX12_cover 111 = .ok (.istore 8, 2) := by decide +kernel
theorem dX12_cover_113 : decode cX12_cover 113 = .ok (.iload 8, 2) := by decide +kernel
theorem dX12_cover_115 : decode cX12_cover 115 = .ok (.iload 4, 2) := by decide +kernel
theorem dX12_cover_117 : decode cX12_cover 117 = .ok (.if_icmp .ge 69, 3) := by decide +kernel
theorem dX12_cover_120 : decode cX12_cover 120 = .ok (.aload_n 0, 1) := by decide +kernel
theorem dX12_cover_121 : decode cX12_cover 121 = .ok (.getfield 16, 3) := by decide +kernel
theorem dX12_cover_124 : decode cX12_cover 124 = .ok (.bipush 96, 2) := by decide +kernel
theorem dX12_cover_126 : decode cX12_cover 126 = .ok (.iload_n 2, 1) := by decide +kernel
theorem dX12_cover_127 : decode cX12_cover 127 = .ok (.imul, 1) := by decide +kernel
theorem dX12_cover_128 : decode cX12_cover 128 = .ok (.iload_n 3, 1) := by decide +kernel
theorem dX12_cover_129 : decode cX12_cover 129 = .ok (.iadd, 1) := by decide +kernel
theorem dX12_cover_130 : decode cX12_cover 130 = .ok (.iload 6, 2) := by decide +kernel
theorem dX12_cover_132 : decode cX12_cover 132 = .ok (.iload 4, 2) := by decide +kernel
theorem dX12_cover_134 : decode cX12_cover 134 = .ok (.imul, 1) := by decide +kernel
theorem dX12_cover_135 : decode cX12_cover 135 = .ok (.iadd, 1) := by decide +kernel
theorem dX12_cover_136 : decode cX12_cover 136 = .ok (.iload 8, 2) := by decide +kernel
theorem dX12_cover_138 : decode cX12_cover 138 = .ok (.iadd, 1) := by decide +kernel
theorem dX12_cover_139 : decode cX12_cover 139 = .ok (.iaload, 1) := by decide +kernel
theorem dX12_cover_140 : decode cX12_cover 140 = .ok (.istore 9, 2) := by decide +kernel
theorem dX12_cover_142 : decode cX12_cover 142 = .ok (.iload 9, 2) := by decide +kernel
theorem dX12_cover_144 : decode cX12_cover 144 = .ok (.i2l, 1) := by decide +kernel
theorem dX12_cover_145 : decode cX12_cover 145 = .ok (.lconst 0, 1) := by decide +kernel
theorem dX12_cover_146 : decode cX12_cover 146 = .ok (.iload 4, 2) := by decide +kernel
theorem dX12_cover_148 : decode cX12_cover 148 = .ok (.iconst 1, 1) := by decide +kernel
theorem dX12_cover_149 : decode cX12_cover 149 = .ok (.isub, 1) := by decide +kernel
theorem dX12_cover_150 : decode cX12_cover 150 = .ok (.i2l, 1) := by decide +kernel
theorem dX12_cover_151 : decode cX12_cover 151 = .ok (.invokestatic 88, 3) := by decide +kernel
theorem dX12_cover_154 : decode cX12_cover 154 = .ok (.ifCond .eq 14, 3) := by decide +kernel
theorem dX12_cover_157 : decode cX12_cover 157 = .ok (.iload 7, 2) := by decide +kernel
theorem dX12_cover_159 : decode cX12_cover 159 = .ok (.iload 9, 2) := by decide +kernel
theorem dX12_cover_161 : decode cX12_cover 161 = .ok (.ishr, 1) := by decide +kernel
theorem dX12_cover_162 : decode cX12_cover 162 = .ok (.iconst 1, 1) := by decide +kernel
theorem dX12_cover_163 : decode cX12_cover 163 = .ok (.iand, 1) := by decide +kernel
theorem dX12_cover_164 : decode cX12_cover 164 = .ok (.iconst 1, 1) := by decide +kernel
theorem dX12_cover_165 : decode cX12_cover 165 = .ok (.if_icmp .ne 6, 3) := by decide +kernel
theorem dX12_cover_168 : decode cX12_cover 168 = .ok (.ldc 98, 2) := by decide +kernel
theorem dX12_cover_170 : decode cX12_cover 170 = .ok (.ireturn, 1) := by decide +kernel
theorem dX12_cover_171 : decode cX12_cover 171 = .ok (.iload 7, 2) := by decide +kernel
theorem dX12_cover_173 : decode cX12_cover 173 = .ok (.iconst 1, 1) := by decide +kernel
theorem dX12_cover_174 : decode cX12_cover 174 = .ok (.iload 9, 2) := by decide +kernel
theorem dX12_cover_176 : decode cX12_cover 176 = .ok (.ishl, 1) := by decide +kernel
theorem dX12_cover_177 : decode cX12_cover 177 = .ok (.ior, 1) := by decide +kernel
theorem dX12_cover_178 : decode cX12_cover 178 = .ok (.istore 7, 2) := by decide +kernel
theorem dX12_cover_180 : decode cX12_cover 180 = .ok (.iinc 8 1, 3) := by decide +kernel
theorem dX12_cover_183 : decode cX12_cover 183 = .ok (.goto (-70), 3) := by decide +kernel
theorem dX12_cover_186 : decode cX12_cover 186 = .ok (.iinc 6 1, 3) := by decide +kernel
theorem dX12_cover_189 : decode cX12_cover 189 = .ok (.goto (-91), 3) := by decide +kernel
theorem dX12_cover_192 : decode cX12_cover 192 = .ok (.aload_n 0, 1) := by decide +kernel
theorem dX12_cover_193 : decode cX12_cover 193 = .ok (.getfield 19, 3) := by decide +kernel
theorem dX12_cover_196 : decode cX12_cover 196 = .ok (.bipush 10, 2) := by decide +kernel
theorem dX12_cover_198 : decode cX12_cover 198 = .ok (.iload 4, 2) := by decide +kernel
theorem dX12_cover_200 : decode cX12_cover 200 = .ok (.iastore, 1) := by decide +kernel
theorem dX12_cover_201 : decode cX12_cover 201 = .ok (.aload_n 0, 1) := by decide +kernel
theorem dX12_cover_202 : decode cX12_cover 202 = .ok (.getfield 22, 3) := by decide +kernel
theorem dX12_cover_205 : decode cX12_cover 205 = .ok (.bipush 10, 2) := by decide +kernel
theorem dX12_cover_207 : decode cX12_cover 207 = .ok (.iload 5, 2) := by decide +kernel
theorem dX12_cover_209 : decode cX12_cover 209 = .ok (.iastore, 1) := by decide +kernel
theorem dX12_cover_210 : decode cX12_cover 210 = .ok (.iconst 0, 1) := by decide +kernel
theorem dX12_cover_211 : decode cX12_cover 211 = .ok (.istore 6, 2) := by decide +kernel
theorem dX12_cover_213 : decode cX12_cover 213 = .ok (.iload 6, 2) := by decide +kernel
theorem dX12_cover_215 : decode cX12_cover 215 = .ok (.iload 4, 2) := by decide +kernel
theorem dX12_cover_217 : decode cX12_cover 217 = .ok (.if_icmp .ge 97, 3) := by decide +kernel
theorem dX12_cover_220 : decode cX12_cover 220 = .ok (.iload 6, 2) := by decide +kernel
theorem dX12_cover_222 : decode cX12_cover 222 = .ok (.istore 7, 2) := by decide +kernel
theorem dX12_cover_224 : decode cX12_cover 224 = .ok (.iconst 0, 1) := by decide +kernel
theorem dX12_cover_225 : decode cX12_cover 225 = .ok (.istore 8, 2) := by decide +kernel
theorem dX12_cover_227 : decode cX12_cover 227 = .ok (.iload 8, 2) := by decide +kernel
theorem dX12_cover_229 : decode cX12_cover 229 = .ok (.iconst 1, 1) := by decide +kernel
theorem dX12_cover_230 : decode cX12_cover 230 = .ok (.iadd, 1) := by decide +kernel
theorem dX12_cover_231 : decode cX12_cover 231 = .ok (.iload 5, 2) := by decide +kernel
theorem dX12_cover_233 : decode cX12_cover 233 = .ok (.if_icmp .ge 61, 3) := by decide +kernel
theorem dX12_cover_236 : decode cX12_cover 236 = .ok (.aload_n 0, 1) := by decide +kernel
theorem dX12_cover_237 : decode cX12_cover 237 = .ok (.bipush 10, 2) := by decide +kernel
theorem dX12_cover_239 : decode cX12_cover 239 = .ok (.iload 8, 2) := by decide +kernel
theorem dX12_cover_241 : decode cX12_cover 241 = .ok (.iload 6, 2) := by decide +kernel
theorem dX12_cover_243 : decode cX12_cover 243 = .ok (.aload_n 0, 1) := by decide +kernel
theorem dX12_cover_244 : decode cX12_cover 244 = .ok (.getfield 16, 3) := by decide +kernel
theorem dX12_cover_247 : decode cX12_cover 247 = .ok (.bipush 96, 2) := by decide +kernel
theorem dX12_cover_249 : decode cX12_cover 249 = .ok (.iload_n 2, 1) := by decide +kernel
theorem dX12_cover_250 : decode cX12_cover 250 = .ok (.imul, 1) := by decide +kernel
theorem dX12_cover_251 : decode cX12_cover 251 = .ok (.iload_n 3, 1) := by decide +kernel
theorem dX12_cover_252 : decode cX12_cover 252 = .ok (.iadd, 1) := by decide +kernel
theorem dX12_cover_253 : decode cX12_cover 253 = .ok (.iload 8, 2) := by decide +kernel
theorem dX12_cover_255 : decode cX12_cover 255 = .ok (.iload 4, 2) := by decide +kernel
theorem dX12_cover_257 : decode cX12_cover 257 = .ok (.imul, 1) := by decide +kernel
theorem dX12_cover_258 : decode cX12_cover 258 = .ok (.iadd, 1) := by decide +kernel
theorem dX12_cover_259 : decode cX12_cover 259 = .ok (.iload 6, 2) := by decide +kernel
theorem dX12_cover_261 : decode cX12_cover 261 = .ok (.iadd, 1) := by decide +kernel
theorem dX12_cover_262 : decode cX12_cover 262 = .ok (.iaload, 1) := by decide +kernel
theorem dX12_cover_263 : decode cX12_cover 263 = .ok (.invokevirtual 127, 3) := by decide +kernel
