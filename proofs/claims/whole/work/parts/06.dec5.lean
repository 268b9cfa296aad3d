theorem dX12_leads_49 : decode cX12_leads 49 = .ok (.invokestatic 88, 3) := by decide +kernel
theorem dX12_leads_52 : decode cX12_leads 52 = .ok (.ifCond .eq 12, 3) := by decide +kernel
theorem dX12_leads_55 : decode cX12_leads 55 = .ok (.aload_n 0, 1) := by decide +kernel
theorem dX12_leads_56 : decode cX12_leads 56 = .ok (.iload_n 1, 1) := by decide +kernel
theorem dX12_leads_57 : decode cX12_leads 57 = .ok (.iload_n 3, 1) := by decide +kernel
theorem dX12_leads_58 : decode cX12_leads 58 = .ok (.invokevirtual 154, 3) := by decide +kernel
theorem dX12_leads_61 : decode cX12_leads 61 = .ok (.ifCond .ne 12, 3) := by decide +kernel
theorem dX12_leads_64 : decode cX12_leads 64 = .ok (.aload_n 0, 1) := by decide +kernel
theorem dX12_leads_65 : decode cX12_leads 65 = .ok (.iload 4, 2) := by decide +kernel
theorem dX12_leads_67 : decode cX12_leads 67 = .ok (.putfield 82, 3) := by decide +kernel
theorem dX12_leads_70 : decode cX12_leads 70 = .ok (.ldc 98, 2) := by decide +kernel
theorem dX12_leads_72 : decode cX12_leads 72 = .ok (.ireturn, 1) := by decide +kernel
theorem dX12_leads_73 : decode cX12_leads 73 = .ok (.aload_n 0, 1) := by decide +kernel
theorem dX12_leads_74 : decode cX12_leads 74 = .ok (.iload_n 1, 1) := by decide +kernel
theorem dX12_leads_75 : decode cX12_leads 75 = .ok (.iload_n 2, 1) := by decide +kernel
theorem dX12_leads_76 : decode cX12_leads 76 = .ok (.iload_n 3, 1) := by decide +kernel
theorem dX12_leads_77 : decode cX12_leads 77 = .ok (.invokevirtual 105, 3) := by decide +kernel
theorem dX12_leads_80 : decode cX12_leads 80 = .ok (.ireturn, 1) := by decide +kernel
theorem dX12_shape_0 : decode cX12_shape 0 = .ok (.aload_n 0, 1) := by decide +kernel
theorem dX12_shape_1 : decode cX12_shape 1 = .ok (.iconst 0, 1) := by decide +kernel
theorem dX12_shape_2 : decode cX12_shape 2 = .ok (.putfield 78, 3) := by decide +kernel
theorem dX12_shape_5 : decode cX12_shape 5 = .ok (.iload_n 1, 1) := by decide +kernel
theorem dX12_shape_6 : decode cX12_shape 6 = .ok (.invokestatic 120, 3) := by decide +kernel
theorem dX12_shape_9 : decode cX12_shape 9 = .ok (.ifCond .ne 6, 3) := by decide +kernel
theorem dX12_shape_12 : decode cX12_shape 12 = .ok (.ldc 98, 2) := by decide +kernel
theorem dX12_shape_14 : decode cX12_shape 14 = .ok (.ireturn, 1) := by decide +kernel
theorem dX12_shape_15 : decode cX12_shape 15 = .ok (.aload_n 0, 1) := by decide +kernel
theorem dX12_shape_16 : decode cX12_shape 16 = .ok (.getfield 82, 3) := by decide +kernel
theorem dX12_shape_19 : decode cX12_shape 19 = .ok (.istore 4, 2) := by decide +kernel
theorem dX12_shape_21 : decode cX12_shape 21 = .ok (.aload_n 0, 1) := by decide +kernel
theorem dX12_shape_22 : decode cX12_shape 22 = .ok (.iload_n 1, 1) := by decide +kernel
theorem dX12_shape_23 : decode cX12_shape 23 = .ok (.iconst 0, 1) := by decide +kernel
theorem dX12_shape_24 : decode cX12_shape 24 = .ok (.invokevirtual 137, 3) := by decide +kernel
theorem dX12_shape_27 : decode cX12_shape 27 = .ok (.istore 5, 2) := by decide +kernel
theorem dX12_shape_29 : decode cX12_shape 29 = .ok (.iload 5, 2) := by decide +kernel
theorem dX12_shape_31 : decode cX12_shape 31 = .ok (.ifCond .ge 6, 3) := by decide +kernel
theorem dX12_shape_34 : decode cX12_shape 34 = .ok (.iload 5, 2) := by decide +kernel
theorem dX12_shape_36 : decode cX12_shape 36 = .ok (.ireturn, 1) := by decide +kernel
theorem dX12_shape_37 : decode cX12_shape 37 = .ok (.iload_n 2, 1) := by decide +kernel
theorem dX12_shape_38 : decode cX12_shape 38 = .ok (.i2l, 1) := by decide +kernel
theorem dX12_shape_39 : decode cX12_shape 39 = .ok (.lconst 0, 1) := by decide +kernel
theorem dX12_shape_40 : decode cX12_shape 40 = .ok (.aload_n 0, 1) := by decide +kernel
theorem dX12_shape_41 : decode cX12_shape 41 = .ok (.getfield 22, 3) := by decide +kernel
theorem dX12_shape_44 : decode cX12_shape 44 = .ok (.iload_n 1, 1) := by decide +kernel
theorem dX12_shape_45 : decode cX12_shape 45 = .ok (.iaload, 1) := by decide +kernel
theorem dX12_shape_46 : decode cX12_shape 46 = .ok (.iconst 1, 1) := by decide +kernel
theorem dX12_shape_47 : decode cX12_shape 47 = .ok (.isub, 1) := by decide +kernel
theorem dX12_shape_48 : decode cX12_shape 48 = .ok (.i2l, 1) := by decide +kernel
theorem dX12_shape_49 : decode cX12_shape 49 = .ok (.invokestatic 88, 3) := by decide +kernel
theorem dX12_shape_52 : decode cX12_shape 52 = .ok (.ifCond .ne 12, 3) := by decide +kernel
theorem dX12_shape_55 : decode cX12_shape 55 = .ok (.aload_n 0, 1) := by decide +kernel
theorem dX12_shape_56 : decode cX12_shape 56 = .ok (.iload 4, 2) := by decide +kernel
theorem dX12_shape_58 : decode cX12_shape 58 = .ok (.putfield 82, 3) := by decide +kernel
theorem dX12_shape_61 : decode cX12_shape 61 = .ok (.ldc 98, 2) := by decide +kernel
theorem dX12_shape_63 : decode cX12_shape 63 = .ok (.ireturn, 1) := by decide +kernel
theorem dX12_shape_64 : decode cX12_shape 64 = .ok (.aload_n 0, 1) := by decide +kernel
theorem dX12_shape_65 : decode cX12_shape 65 = .ok (.iload_n 1, 1) := by decide +kernel
theorem dX12_shape_66 : decode cX12_shape 66 = .ok (.iload_n 2, 1) := by decide +kernel
theorem dX12_shape_67 : decode cX12_shape 67 = .ok (.invokevirtual 109, 3) := by decide +kernel
theorem dX12_shape_70 : decode cX12_shape 70 = .ok (.istore 6, 2) := by decide +kernel
theorem dX12_shape_72 : decode cX12_shape 72 = .ok (.iload_n 3, 1) := by decide +kernel
theorem dX12_shape_73 : decode cX12_shape 73 = .ok (.i2l, 1) := by decide +kernel
theorem dX12_shape_74 : decode cX12_shape 74 = .ok (.lconst 0, 1) := by decide +kernel
theorem dX12_shape_75 : decode cX12_shape 75 = .ok (.iload 6, 2) := by decide +kernel
theorem dX12_shape_77 : decode cX12_shape 77 = .ok (.iconst 1, 1) := by decide +kernel
theorem dX12_shape_78 : decode cX12_shape 78 = .ok (.isub, 1) := by decide +kernel
theorem dX12_shape_79 : decode cX12_shape 79 = .ok (.i2l, 1) := by decide +kernel
theorem dX12_shape_80 : decode cX12_shape 80 = .ok (.invokestatic 88, 3) := by decide +kernel
theorem dX12_shape_83 : decode cX12_shape 83 = .ok (.ifCond .eq 12, 3) := by decide +kernel
theorem dX12_shape_86 : decode cX12_shape 86 = .ok (.aload_n 0, 1) := by decide +kernel
theorem dX12_shape_87 : decode cX12_shape 87 = .ok (.getfield 32, 3) := by decide +kernel
theorem dX12_shape_90 : decode cX12_shape 90 = .ok (.iload_n 3, 1) := by decide +kernel
theorem dX12_shape_91 : decode cX12_shape 91 = .ok (.iaload, 1) := by decide +kernel
theorem dX12_shape_92 : decode cX12_shape 92 = .ok (.goto 5, 3) := by decide +kernel
theorem dX12_shape_95 : decode cX12_shape 95 = .ok (.ldc 176, 2) := by decide +kernel
theorem dX12_shape_97 : decode cX12_shape 97 = .ok (.ireturn, 1) := by decide +kernel
theorem dX12_block_0 : decode cX12_block 0 = .ok (.aload_n 0, 1) := by decide +kernel
theorem dX12_block_1 : decode cX12_block 1 = .ok (.iconst 0, 1) := by decide +kernel
theorem dX12_block_2 : decode cX12_block 2 = .ok (.putfield 78, 3) := by decide +kernel
theorem dX12_block_5 : decode cX12_block 5 = .ok (.iload_n 1, 1) := by decide +kernel
theorem dX12_block_6 : decode cX12_block 6 = .ok (.invokestatic 120, 3) := by decide +kernel
theorem dX12_block_9 : decode cX12_block 9 = .ok (.ifCond .ne 6, 3) := by decide +kernel
theorem dX12_block_12 : decode cX12_block 12 = .ok (.ldc 98, 2) := by decide +kernel
theorem dX12_block_14 : decode cX12_block 14 = .ok (.ireturn, 1) := by decide +kernel
theorem dX12_block_15 : decode cX12_block 15 = .ok (.aload_n 0, 1) := by decide +kernel
theorem dX12_block_16 : decode cX12_block 16 = .ok (.getfield 82, 3) := by decide +kernel
theorem dX12_block_19 : decode cX12_block 19 = .ok (.istore 5, 2) := by decide +kernel
theorem dX12_block_21 : decode cX12_block 21 = .ok (.aload_n 0, 1) := by decide +kernel
theorem dX12_block_22 : decode cX12_block 22 = .ok (.iload_n 1, 1) := by decide +kernel
theorem dX12_block_23 : decode cX12_block 23 = .ok (.iconst 1, 1) := by decide +kernel
theorem dX12_block_24 : decode cX12_block 24 = .ok (.invokevirtual 137, 3) := by decide +kernel
theorem dX12_block_27 : decode cX12_block 27 = .ok (.istore 6, 2) := by decide +kernel
theorem dX12_block_29 : decode cX12_block 29 = .ok (.iload 6, 2) := by decide +kernel
theorem dX12_block_31 : decode cX12_block 31 = .ok (.ifCond .ge 6, 3) := by decide +kernel
theorem dX12_block_34 : decode cX12_block 34 = .ok (.iload 6, 2) := by decide +kernel
theorem dX12_block_36 : decode cX12_block 36 = .ok (.ireturn, 1) := by decide +kernel
theorem dX12_block_37 : decode cX12_block 37 = .ok (.aload_n 0, 1) := by decide +kernel
theorem dX12_block_38 : decode cX12_block 38 = .ok (.iload_n 1, 1) := by decide +kernel
theorem dX12_block_39 : decode cX12_block 39 = .ok (.iload_n 2, 1) := by decide +kernel
theorem dX12_block_40 : decode cX12_block 40 = .ok (.invokevirtual 154, 3) := by decide +kernel
theorem dX12_block_43 : decode cX12_block 43 = .ok (.ifCond .eq 28, 3) := by decide +kernel
theorem dX12_block_46 : decode cX12_block 46 = .ok (.aload_n 0, 1) := by decide +kernel
theorem dX12_block_47 : decode cX12_block 47 = .ok (.iload_n 1, 1) := by decide +kernel
theorem dX12_block_48 : decode cX12_block 48 = .ok (.iload_n 3, 1) := by decide +kernel
theorem dX12_block_49 : decode cX12_block 49 = .ok (.invokevirtual 154, 3) := by decide +kernel
theorem dX12_block_52 : decode cX12_block 52 = .ok (.ifCond .eq 19, 3) := by decide +kernel
theorem dX12_block_55 : decode cX12_block 55 = .ok (.iload 4, 2) := by decide +kernel
theorem dX12_block_57 : decode cX12_block 57 = .ok (.iconst (-1), 1) := by decide +kernel
theorem dX12_block_58 : decode cX12_block 58 = .ok (.if_icmp .eq 22, 3) := by decide +kernel
theorem dX12_block_61 : decode cX12_block 61 = .ok (.aload_n 0, 1) := by decide +kernel
theorem dX12_block_62 : decode cX12_block 62 = .ok (.iload_n 1, 1) := by decide +kernel
theorem dX12_block_63 : decode cX12_block 63 = .ok (.iload 4, 2) := by decide +kernel
theorem dX12_block_65 : decode cX12_block 65 = .ok (.invokevirtual 154, 3) := by decide +kernel
theorem dX12_block_68 : decode cX12_block 68 = .ok (.ifCond .ne 12, 3) := by decide +kernel
theorem dX12_block_71 : decode cX12_block 71 = .ok (.aload_n 0, 1) := by decide +kernel
theorem dX12_block_72 : decode cX12_block 72 = .ok (.iload 5, 2) := by decide +kernel
theorem dX12_block_74 : decode cX12_block 74 = .ok (.putfield 82, 3) := by decide +kernel
theorem dX12_block_77 : decode cX12_block 77 = .ok (.ldc 98, 2) := by decide +kernel
theorem dX12_block_79 : decode cX12_block 79 = .ok (.ireturn, 1) := by decide +kernel
theorem dX12_block_80 : decode cX12_block 80 = .ok (.aload_n 0, 1) := by decide +kernel
theorem dX12_block_81 : decode cX12_block 81 = .ok (.iload_n 1, 1) := by decide +kernel
theorem dX12_block_82 : decode cX12_block 82 = .ok (.iload_n 2, 1) := by decide +kernel
theorem dX12_block_83 : decode cX12_block 83 = .ok (.iload_n 3, 1) := by decide +kernel
theorem dX12_block_84 : decode cX12_block 84 = .ok (.invokevirtual 158, 3) := by decide +kernel
theorem dX12_block_87 : decode cX12_block 87 = .ok (.istore 7, 2) := by decide +kernel
theorem dX12_block_89 : decode cX12_block 89 = .ok (.iload 4, 2) := by decide +kernel
theorem dX12_block_91 : decode cX12_block 91 = .ok (.iconst (-1), 1) := by decide +kernel
theorem dX12_block_92 : decode cX12_block 92 = .ok (.if_icmp .ne 8, 3) := by decide +kernel
theorem dX12_block_95 : decode cX12_block 95 = .ok (.iload 7, 2) := by decide +kernel
theorem dX12_block_97 : decode cX12_block 97 = .ok (.goto 10, 3) := by decide +kernel
theorem dX12_block_100 : decode cX12_block 100 = .ok (.aload_n 0, 1) := by decide +kernel
theorem dX12_block_101 : decode cX12_block 101 = .ok (.getfield 44, 3) := by decide +kernel
theorem dX12_block_104 : decode cX12_block 104 = .ok (.iload 4, 2) := by decide +kernel
theorem dX12_block_106 : decode cX12_block 106 = .ok (.iaload, 1) := by decide +kernel
theorem dX12_block_107 : decode cX12_block 107 = .ok (.ireturn, 1) := by decide +kernel
theorem dX12_same_0 : decode cX12_same 0 = .ok (.aload_n 0, 1) := by decide +kernel
theorem dX12_same_1 : decode cX12_same 1 = .ok (.iconst 0, 1) := by decide +kernel
theorem dX12_same_2 : decode cX12_same 2 = .ok (.putfield 78, 3) := by decide +kernel
theorem dX12_same_5 : decode cX12_same 5 = .ok (.iload_n 1, 1) := by decide +kernel
theorem dX12_same_6 : decode cX12_same 6 = .ok (.invokestatic 120, 3) := by decide +kernel
theorem dX12_same_9 : decode cX12_same 9 = .ok (.ifCond .eq 10, 3) := by decide +kernel
theorem dX12_same_12 : decode cX12_same 12 = .ok (.iload_n 2, 1) := by decide +kernel
theorem dX12_same_13 : decode cX12_same 13 = .ok (.invokestatic 120, 3) := by decide +kernel
theorem dX12_same_16 : decode cX12_same 16 = .ok (.ifCond .ne 6, 3) := by decide +kernel
theorem dX12_same_19 : decode cX12_same 19 = .ok (.ldc 98, 2) := by decide +kernel
theorem dX12_same_21 : decode cX12_same 21 = .ok (.ireturn, 1) := by decide +kernel
theorem dX12_same_22 : decode cX12_same 22 = .ok (.aload_n 0, 1) := by decide +kernel
theorem dX12_same_23 : decode cX12_same 23 = .ok (.iload_n 1, 1) := by decide +kernel
theorem dX12_same_24 : decode cX12_same 24 = .ok (.iconst 1, 1) := by decide +kernel
theorem dX12_same_25 : decode cX12_same 25 = .ok (.invokevirtual 137, 3) := by decide +kernel
theorem dX12_same_28 : decode cX12_same 28 = .ok (.istore_n 3, 1) := by decide +kernel
theorem dX12_same_29 : decode cX12_same 29 = .ok (.iload_n 3, 1) := by decide +kernel
theorem dX12_same_30 : decode cX12_same 30 = .ok (.ifCond .ne 10, 3) := by decide +kernel
theorem dX12_same_33 : decode cX12_same 33 = .ok (.aload_n 0, 1) := by decide +kernel
theorem dX12_same_34 : decode cX12_same 34 = .ok (.iload_n 2, 1) := by decide +kernel
theorem dX12_same_35 : decode cX12_same 35 = .ok (.iconst 1, 1) := by decide +kernel
theorem dX12_same_36 : decode cX12_same 36 = .ok (.invokevirtual 137, 3) := by decide +kernel
theorem dX12_same_39 : decode cX12_same 39 = .ok (.istore_n 3, 1) := by decide +kernel
theorem dX12_same_40 : decode cX12_same 40 = .ok (.iload_n 3, 1) := by decide +kernel
theorem dX12_same_41 : decode cX12_same 41 = .ok (.ifCond .ge 5, 3) := by decide +kernel
theorem dX12_same_44 : decode cX12_same 44 = .ok (.iload_n 3, 1) := by decide +kernel
theorem dX12_same_45 : decode cX12_same 45 = .ok (.ireturn, 1) := by decide +kernel
theorem dX12_same_46 : decode cX12_same 46 = .ok (.aload_n 0, 1) := by decide +kernel
theorem dX12_same_47 : decode cX12_same 47 = .ok (.getfield 19, 3) := by decide +kernel
theorem dX12_same_50 : decode cX12_same 50 = .ok (.iload_n 1, 1) := by decide +kernel
theorem dX12_same_51 : decode cX12_same 51 = .ok (.iaload, 1) := by decide +kernel
theorem dX12_same_52 : decode cX12_same 52 = .ok (.aload_n 0, 1) := by decide +kernel
theorem dX12_same_53 : decode cX12_same 53 = .ok (.getfield 19, 3) := by decide +kernel
theorem dX12_same_56 : decode cX12_same 56 = .ok (.iload_n 2, 1) := by decide +kernel
theorem dX12_same_57 : decode cX12_same 57 = .ok (.iaload, 1) := by decide +kernel
theorem dX12_same_58 : decode cX12_same 58 = .ok (.if_icmp .ne 18, 3) := by decide +kernel
theorem dX12_same_61 : decode cX12_same 61 = .ok (.aload_n 0, 1) := by decide +kernel
theorem dX12_same_62 : decode cX12_same 62 = .ok (.getfield 22, 3) := by decide +kernel
theorem dX12_same_65 : decode cX12_same 65 = .ok (.iload_n 1, 1) := by decide +kernel
theorem dX12_same_66 : decode cX12_same 66 = .ok (.iaload, 1) := by decide +kernel
theorem dX12_same_67 : decode cX12_same 67 = .ok (.aload_n 0, 1) := by decide +kernel
theorem dX12_same_68 : decode cX12_same 68 = .ok (.getfield 22, 3) := by decide +kernel
theorem dX12_same_71 : decode cX12_same 71 = .ok (.iload_n 2, 1) := by decide +kernel
theorem dX12_same_72 : decode cX12_same 72 = .ok (.iaload, 1) := by decide +kernel
theorem dX12_same_73 : decode cX12_same 73 = .ok (.if_icmp .eq 5, 3) := by decide +kernel
theorem dX12_same_76 : decode cX12_same 76 = .ok (.iconst 0, 1) := by decide +kernel
theorem dX12_same_77 : decode cX12_same 77 = .ok (.ireturn, 1) := by decide +kernel
theorem dX12_same_78 : decode cX12_same 78 = .ok (.aload_n 0, 1) := by decide +kernel
theorem dX12_same_79 : decode cX12_same 79 = .ok (.bipush 10, 2) := by decide +kernel
theorem dX12_same_81 : decode cX12_same 81 = .ok (.iload_n 1, 1) := by decide +kernel
theorem dX12_same_82 : decode cX12_same 82 = .ok (.invokevirtual 148, 3) := by decide +kernel
theorem dX12_same_85 : decode cX12_same 85 = .ok (.aload_n 0, 1) := by decide +kernel
theorem dX12_same_86 : decode cX12_same 86 = .ok (.bipush 12, 2) := by decide +kernel
theorem dX12_same_88 : decode cX12_same 88 = .ok (.iload_n 2, 1) := by decide +kernel
theorem dX12_same_89 : decode cX12_same 89 = .ok (.invokevirtual 148, 3) := by decide +kernel
theorem dX12_same_92 : decode cX12_same 92 = .ok (.iadd, 1) := by decide +kernel
theorem dX12_same_93 : decode cX12_same 93 = .ok (.istore 4, 2) := by decide +kernel
theorem dX12_same_95 : decode cX12_same 95 = .ok (.aload_n 0, 1) := by decide +kernel
theorem dX12_same_96 : decode cX12_same 96 = .ok (.bipush 10, 2) := by decide +kernel
theorem dX12_same_98 : decode cX12_same 98 = .ok (.bipush 12, 2) := by decide +kernel
theorem dX12_same_100 : decode cX12_same 100 = .ok (.invokevirtual 145, 3) := by decide +kernel
theorem dX12_same_103 : decode cX12_same 103 = .ok (.ifCond .ne 7, 3) := by decide +kernel
theorem dX12_same_106 : decode cX12_same 106 = .ok (.iconst 1, 1) := by decide +kernel
theorem dX12_same_107 : decode cX12_same 107 = .ok (.goto 4, 3) := by decide +kernel
theorem dX12_same_110 : decode cX12_same 110 = .ok (.iconst 0, 1) := by decide +kernel
theorem dX12_same_111 : decode cX12_same 111 = .ok (.ireturn, 1) := by decide +kernel
theorem dX12_isName_0 : decode cX12_isName 0 = .ok (.iconst 0, 1) := by decide +kernel
theorem dX12_isName_1 : decode cX12_isName 1 = .ok (.istore_n 2, 1) := by decide +kernel
theorem dX12_isName_2 : decode cX12_isName 2 = .ok (.iload_n 2, 1) := by decide +kernel
theorem dX12_isName_3 : decode cX12_isName 3 = .ok (.bipush 96, 2) := by decide +kernel
theorem dX12_isName_5 : decode cX12_isName 5 = .ok (.if_icmp .ge 35, 3) := by decide +kernel
theorem dX12_isName_8 : decode cX12_isName 8 = .ok (.aload_n 0, 1) := by decide +kernel
theorem dX12_isName_9 : decode cX12_isName 9 = .ok (.getfield 59, 3) := by decide +kernel
theorem dX12_isName_12 : decode cX12_isName 12 = .ok (.bipush 96, 2) := by decide +kernel
theorem dX12_isName_14 : decode cX12_isName 14 = .ok (.iload_n 1, 1) := by decide +kernel
theorem dX12_isName_15 : decode cX12_isName 15 = .ok (.imul, 1) := by decide +kernel
theorem dX12_isName_16 : decode cX12_isName 16 = .ok (.iload_n 2, 1) := by decide +kernel
theorem dX12_isName_17 : decode cX12_isName 17 = .ok (.iadd, 1) := by decide +kernel
theorem dX12_isName_18 : decode cX12_isName 18 = .ok (.iaload, 1) := by decide +kernel
theorem dX12_isName_19 : decode cX12_isName 19 = .ok (.aload_n 0, 1) := by decide +kernel
theorem dX12_isName_20 : decode cX12_isName 20 = .ok (.getfield 25, 3) := by decide +kernel
theorem dX12_isName_23 : decode cX12_isName 23 = .ok (.sipush 960, 3) := by decide +kernel
theorem dX12_isName_26 : decode cX12_isName 26 = .ok (.iload_n 2, 1) := by decide +kernel
theorem dX12_isName_27 : decode cX12_isName 27 = .ok (.iadd, 1) := by decide +kernel
theorem dX12_isName_28 : decode cX12_isName 28 = .ok (.iaload, 1) := by decide +kernel
theorem dX12_isName_29 : decode cX12_isName 29 = .ok (.if_icmp .eq 5, 3) := by decide +kernel
theorem dX12_isName_32 : decode cX12_isName 32 = .ok (.iconst 0, 1) := by decide +kernel
theorem dX12_isName_33 : decode cX12_isName 33 = .ok (.ireturn, 1) := by decide +kernel
theorem dX12_isName_34 : decode cX12_isName 34 = .ok (.iinc 2 1, 3) := by decide +kernel
theorem dX12_isName_37 : decode cX12_isName 37 = .ok (.goto (-35), 3) := by decide +kernel
theorem dX12_isName_40 : decode cX12_isName 40 = .ok (.iconst 1, 1) := by decide +kernel
theorem dX12_isName_41 : decode cX12_isName 41 = .ok (.ireturn, 1) := by decide +kernel
theorem dX12_ring_0 : decode cX12_ring 0 = .ok (.aload_n 0, 1) := by decide +kernel
theorem dX12_ring_1 : decode cX12_ring 1 = .ok (.iconst 0, 1) := by decide +kernel
theorem dX12_ring_2 : decode cX12_ring 2 = .ok (.putfield 78, 3) := by decide +kernel
theorem dX12_ring_5 : decode cX12_ring 5 = .ok (.iload_n 1, 1) := by decide +kernel
theorem dX12_ring_6 : decode cX12_ring 6 = .ok (.invokestatic 120, 3) := by decide +kernel
theorem dX12_ring_9 : decode cX12_ring 9 = .ok (.ifCond .ne 6, 3) := by decide +kernel
theorem dX12_ring_12 : decode cX12_ring 12 = .ok (.ldc 98, 2) := by decide +kernel
theorem dX12_ring_14 : decode cX12_ring 14 = .ok (.ireturn, 1) := by decide +kernel
theorem dX12_ring_15 : decode cX12_ring 15 = .ok (.aload_n 0, 1) := by decide +kernel
theorem dX12_ring_16 : decode cX12_ring 16 = .ok (.getfield 82, 3) := by decide +kernel
theorem dX12_ring_19 : decode cX12_ring 19 = .ok (.istore_n 2, 1) := by decide +kernel
theorem dX12_ring_20 : decode cX12_ring 20 = .ok (.aload_n 0, 1) := by decide +kernel
theorem dX12_ring_21 : decode cX12_ring 21 = .ok (.iload_n 1, 1) := by decide +kernel
theorem dX12_ring_22 : decode cX12_ring 22 = .ok (.iconst 1, 1) := by decide +kernel
theorem dX12_ring_23 : decode cX12_ring 23 = .ok (.invokevirtual 137, 3) := by decide +kernel
theorem dX12_ring_26 : decode cX12_ring 26 = .ok (.istore_n 3, 1) := by decide +kernel
theorem dX12_ring_27 : decode cX12_ring 27 = .ok (.iload_n 3, 1) := by decide +kernel
theorem dX12_ring_28 : decode cX12_ring 28 = .ok (.ifCond .ge 5, 3) := by decide +kernel
theorem dX12_ring_31 : decode cX12_ring 31 = .ok (.iload_n 3, 1) := by decide +kernel
theorem dX12_ring_32 : decode cX12_ring 32 = .ok (.ireturn, 1) := by decide +kernel
theorem dX12_ring_33 : decode cX12_ring 33 = .ok (.iconst 0, 1) := by decide +kernel
theorem dX12_ring_34 : decode cX12_ring 34 = .ok (.istore 4, 2) := by decide +kernel
theorem dX12_ring_36 : decode cX12_ring 36 = .ok (.iload 4, 2) := by decide +kernel
theorem dX12_ring_38 : decode cX12_ring 38 = .ok (.bipush 96, 2) := by decide +kernel
theorem dX12_ring_40 : decode cX12_ring 40 = .ok (.if_icmp .ge 33, 3) := by decide +kernel
theorem dX12_ring_43 : decode cX12_ring 43 = .ok (.aload_n 0, 1) := by decide +kernel
theorem dX12_ring_44 : decode cX12_ring 44 = .ok (.getfield 25, 3) := by decide +kernel
theorem dX12_ring_47 : decode cX12_ring 47 = .ok (.sipush 960, 3) := by decide +kernel
theorem dX12_ring_50 : decode cX12_ring 50 = .ok (.iload 4, 2) := by decide +kernel
theorem dX12_ring_52 : decode cX12_ring 52 = .ok (.iadd, 1) := by decide +kernel
theorem dX12_ring_53 : decode cX12_ring 53 = .ok (.iconst 0, 1) := by decide +kernel
theorem dX12_ring_54 : decode cX12_ring 54 = .ok (.iastore, 1) := by decide +kernel
theorem dX12_ring_55 : decode cX12_ring 55 = .ok (.aload_n 0, 1) := by decide +kernel
theorem dX12_ring_56 : decode cX12_ring 56 = .ok (.getfield 25, 3) := by decide +kernel
theorem dX12_ring_59 : decode cX12_ring 59 = .ok (.sipush 1056, 3) := by decide +kernel
theorem dX12_ring_62 : decode cX12_ring 62 = .ok (.iload 4, 2) := by decide +kernel
theorem dX12_ring_64 : decode cX12_ring 64 = .ok (.iadd, 1) := by decide +kernel
theorem dX12_ring_65 : decode cX12_ring 65 = .ok (.iconst 0, 1) := by decide +kernel
theorem dX12_ring_66 : decode cX12_ring 66 = .ok (.iastore, 1) := by decide +kernel
theorem dX12_ring_67 : decode cX12_ring 67 = .ok (.iinc 4 1, 3) := by decide +kernel
theorem dX12_ring_70 : decode cX12_ring 70 = .ok (.goto (-34), 3) := by decide +kernel
theorem dX12_ring_73 : decode cX12_ring 73 = .ok (.aload_n 0, 1) := by decide +kernel
theorem dX12_ring_74 : decode cX12_ring 74 = .ok (.bipush 10, 2) := by decide +kernel
theorem dX12_ring_76 : decode cX12_ring 76 = .ok (.iload_n 1, 1) := by decide +kernel
theorem dX12_ring_77 : decode cX12_ring 77 = .ok (.invokevirtual 148, 3) := by decide +kernel
theorem dX12_ring_80 : decode cX12_ring 80 = .ok (.istore 4, 2) := by decide +kernel
theorem dX12_ring_82 : decode cX12_ring 82 = .ok (.iconst 0, 1) := by decide +kernel
theorem dX12_ring_83 : decode cX12_ring 83 = .ok (.istore 5, 2) := by decide +kernel
theorem dX12_ring_85 : decode cX12_ring 85 = .ok (.iload 5, 2) := by decide +kernel
theorem dX12_ring_87 : decode cX12_ring 87 = .ok (.bipush 96, 2) := by decide +kernel
theorem dX12_ring_89 : decode cX12_ring 89 = .ok (.if_icmp .ge 27, 3) := by decide +kernel
theorem dX12_ring_92 : decode cX12_ring 92 = .ok (.aload_n 0, 1) := by decide +kernel
theorem dX12_ring_93 : decode cX12_ring 93 = .ok (.getfield 59, 3) := by decide +kernel
theorem dX12_ring_96 : decode cX12_ring 96 = .ok (.iload 5, 2) := by decide +kernel
theorem dX12_ring_98 : decode cX12_ring 98 = .ok (.aload_n 0, 1) := by decide +kernel
theorem dX12_ring_99 : decode cX12_ring 99 = .ok (.getfield 25, 3) := by decide +kernel
theorem dX12_ring_102 : decode cX12_ring 102 = .ok (.sipush 960, 3) := by decide +kernel
theorem dX12_ring_105 : decode cX12_ring 105 = .ok (.iload 5, 2) := by decide +kernel
theorem dX12_ring_107 : decode cX12_ring 107 = .ok (.iadd, 1) := by decide +kernel
theorem dX12_ring_108 : decode cX12_ring 108 = .ok (.iaload, 1) := by decide +kernel
theorem dX12_ring_109 : decode cX12_ring 109 = .ok (.iastore, 1) := by decide +kernel
theorem dX12_ring_110 : decode cX12_ring 110 = .ok (.iinc 5 1, 3) := by decide +kernel
theorem dX12_ring_113 : decode cX12_ring 113 = .ok (.goto (-28), 3) := by decide +kernel
theorem dX12_ring_116 : decode cX12_ring 116 = .ok (.iconst 1, 1) := by decide +kernel
theorem dX12_ring_117 : decode cX12_ring 117 = .ok (.istore 5, 2) := by decide +kernel
theorem dX12_ring_119 : decode cX12_ring 119 = .ok (.iconst 0, 1) := by decide +kernel
theorem dX12_ring_120 : decode cX12_ring 120 = .ok (.istore 6, 2) := by decide +kernel
theorem dX12_ring_122 : decode cX12_ring 122 = .ok (.iload 6, 2) := by decide +kernel
theorem dX12_ring_124 : decode cX12_ring 124 = .ok (.iload 5, 2) := by decide +kernel
theorem dX12_ring_126 : decode cX12_ring 126 = .ok (.if_icmp .ge 248, 3) := by decide +kernel
theorem dX12_ring_129 : decode cX12_ring 129 = .ok (.iconst 0, 1) := by decide +kernel
theorem dX12_ring_130 : decode cX12_ring 130 = .ok (.istore 7, 2) := by decide +kernel
theorem dX12_ring_132 : decode cX12_ring 132 = .ok (.iload 7, 2) := by decide +kernel
theorem dX12_ring_134 : decode cX12_ring 134 = .ok (.iconst 1, 1) := by decide +kernel
theorem dX12_ring_135 : decode cX12_ring 135 = .ok (.iadd, 1) := by decide +kernel
theorem dX12_ring_136 : decode cX12_ring 136 = .ok (.aload_n 0, 1) := by decide +kernel
theorem dX12_ring_137 : decode cX12_ring 137 = .ok (.getfield 22, 3) := by decide +kernel
theorem dX12_ring_140 : decode cX12_ring 140 = .ok (.iload_n 1, 1) := by decide +kernel
theorem dX12_ring_141 : decode cX12_ring 141 = .ok (.iaload, 1) := by decide +kernel
theorem dX12_ring_142 : decode cX12_ring 142 = .ok (.if_icmp .ge 226, 3) := by decide +kernel
theorem dX12_ring_145 : decode cX12_ring 145 = .ok (.aload_n 0, 1) := by decide +kernel
theorem dX12_ring_146 : decode cX12_ring 146 = .ok (.getfield 19, 3) := by decide +kernel
theorem dX12_ring_149 : decode cX12_ring 149 = .ok (.bipush 12, 2) := by decide +kernel
theorem dX12_ring_151 : decode cX12_ring 151 = .ok (.aload_n 0, 1) := by decide +kernel
theorem dX12_ring_152 : decode cX12_ring 152 = .ok (.getfield 19, 3) := by decide +kernel
theorem dX12_ring_155 : decode cX12_ring 155 = .ok (.iload_n 1, 1) := by decide +kernel
theorem dX12_ring_156 : decode cX12_ring 156 = .ok (.iaload, 1) := by decide +kernel
theorem dX12_ring_157 : decode cX12_ring 157 = .ok (.iastore, 1) := by decide +kernel
theorem dX12_ring_158 : decode cX12_ring 158 = .ok (.aload_n 0, 1) := by decide +kernel
theorem dX12_ring_159 : decode cX12_ring 159 = .ok (.getfield 22, 3) := by decide +kernel
theorem dX12_ring_162 : decode cX12_ring 162 = .ok (.bipush 12, 2) := by decide +kernel
theorem dX12_ring_164 : decode cX12_ring 164 = .ok (.aload_n 0, 1) := by decide +kernel
theorem dX12_ring_165 : decode cX12_ring 165 = .ok (.getfield 22, 3) := by decide +kernel
theorem dX12_ring_168 : decode cX12_ring 168 = .ok (.iload_n 1, 1) := by decide +kernel
theorem dX12_ring_169 : decode cX12_ring 169 = .ok (.iaload, 1) := by decide +kernel
theorem dX12_ring_170 : decode cX12_ring 170 = .ok (.iastore, 1) := by decide +kernel
theorem dX12_ring_171 : decode cX12_ring 171 = .ok (.aload_n 0, 1) := by decide +kernel
theorem dX12_ring_172 : decode cX12_ring 172 = .ok (.getfield 19, 3) := by decide +kernel
theorem dX12_ring_175 : decode cX12_ring 175 = .ok (.bipush 10, 2) := by decide +kernel
theorem dX12_ring_177 : decode cX12_ring 177 = .ok (.aload_n 0, 1) := by decide +kernel
theorem dX12_ring_178 : decode cX12_ring 178 = .ok (.getfield 19, 3) := by decide +kernel
theorem dX12_ring_181 : decode cX12_ring 181 = .ok (.iload_n 1, 1) := by decide +kernel
theorem dX12_ring_182 : decode cX12_ring 182 = .ok (.iaload, 1) := by decide +kernel
theorem dX12_ring_183 : decode cX12_ring 183 = .ok (.iastore, 1) := by decide +kernel
theorem dX12_ring_184 : decode cX12_ring 184 = .ok (.aload_n 0, 1) := by decide +kernel
theorem dX12_ring_185 : decode cX12_ring 185 = .ok (.getfield 22, 3) := by decide +kernel
theorem dX12_ring_188 : decode cX12_ring 188 = .ok (.bipush 10, 2) := by decide +kernel
theorem dX12_ring_190 : decode cX12_ring 190 = .ok (.aload_n 0, 1) := by decide +kernel
theorem dX12_ring_191 : decode cX12_ring 191 = .ok (.getfield 22, 3) := by decide +kernel
theorem dX12_ring_194 : decode cX12_ring 194 = .ok (.iload_n 1, 1) := by decide +kernel
theorem dX12_ring_195 : decode cX12_ring 195 = .ok (.iaload, 1) := by decide +kernel
theorem dX12_ring_196 : decode cX12_ring 196 = .ok (.iastore, 1) := by decide +kernel
theorem dX12_ring_197 : decode cX12_ring 197 = .ok (.iconst 0, 1) := by decide +kernel
theorem dX12_ring_198 : decode cX12_ring 198 = .ok (.istore 8, 2) := by decide +kernel
theorem dX12_ring_200 : decode cX12_ring 200 = .ok (.iload 8, 2) := by decide +kernel
theorem dX12_ring_202 : decode cX12_ring 202 = .ok (.bipush 96, 2) := by decide +kernel
theorem dX12_ring_204 : decode cX12_ring 204 = .ok (.if_icmp .ge 33, 3) := by decide +kernel
theorem dX12_ring_207 : decode cX12_ring 207 = .ok (.aload_n 0, 1) := by decide +kernel
theorem dX12_ring_208 : decode cX12_ring 208 = .ok (.getfield 25, 3) := by decide +kernel
theorem dX12_ring_211 : decode cX12_ring 211 = .ok (.sipush 1152, 3) := by decide +kernel
theorem dX12_ring_214 : decode cX12_ring 214 = .ok (.iload 8, 2) := by decide +kernel
theorem dX12_ring_216 : decode cX12_ring 216 = .ok (.iadd, 1) := by decide +kernel
theorem dX12_ring_217 : decode cX12_ring 217 = .ok (.aload_n 0, 1) := by decide +kernel
theorem dX12_ring_218 : decode cX12_ring 218 = .ok (.getfield 59, 3) := by decide +kernel
theorem dX12_ring_221 : decode cX12_ring 221 = .ok (.bipush 96, 2) := by decide +kernel
theorem dX12_ring_223 : decode cX12_ring 223 = .ok (.iload 6, 2) := by decide +kernel
theorem dX12_ring_225 : decode cX12_ring 225 = .ok (.imul, 1) := by decide +kernel
theorem dX12_ring_226 : decode cX12_ring 226 = .ok (.iload 8, 2) := by decide +kernel
theorem dX12_ring_228 : decode cX12_ring 228 = .ok (.iadd, 1) := by decide +kernel
theorem dX12_ring_229 : decode cX12_ring 229 = .ok (.iaload, 1) := by decide +kernel
theorem dX12_ring_230 : decode cX12_ring 230 = .ok (.iastore, 1) := by decide +kernel
theorem dX12_ring_231 : decode cX12_ring 231 = .ok (.iinc 8 1, 3) := by decide +kernel
theorem dX12_ring_234 : decode cX12_ring 234 = .ok (.goto (-34), 3) := by decide +kernel
theorem dX12_ring_237 : decode cX12_ring 237 = .ok (.aload_n 0, 1) := by decide +kernel
theorem dX12_ring_238 : decode cX12_ring 238 = .ok (.bipush 10, 2) := by decide +kernel
theorem dX12_ring_240 : decode cX12_ring 240 = .ok (.bipush 12, 2) := by decide +kernel
theorem dX12_ring_242 : decode cX12_ring 242 = .ok (.iload 7, 2) := by decide +kernel
theorem dX12_ring_244 : decode cX12_ring 244 = .ok (.iconst 0, 1) := by decide +kernel
theorem dX12_ring_245 : decode cX12_ring 245 = .ok (.invokevirtual 164, 3) := by decide +kernel
theorem dX12_ring_248 : decode cX12_ring 248 = .ok (.aload_n 0, 1) := by decide +kernel
theorem dX12_ring_249 : decode cX12_ring 249 = .ok (.bipush 12, 2) := by decide +kernel
theorem dX12_ring_251 : decode cX12_ring 251 = .ok (.bipush 10, 2) := by decide +kernel
theorem dX12_ring_253 : decode cX12_ring 253 = .ok (.invokevirtual 113, 3) := by decide +kernel
theorem dX12_ring_256 : decode cX12_ring 256 = .ok (.aload_n 0, 1) := by decide +kernel
theorem dX12_ring_257 : decode cX12_ring 257 = .ok (.bipush 10, 2) := by decide +kernel
theorem dX12_ring_259 : decode cX12_ring 259 = .ok (.bipush 12, 2) := by decide +kernel
theorem dX12_ring_261 : decode cX12_ring 261 = .ok (.invokevirtual 148, 3) := by decide +kernel
theorem dX12_ring_264 : decode cX12_ring 264 = .ok (.istore 4, 2) := by decide +kernel
theorem dX12_ring_266 : decode cX12_ring 266 = .ok (.iconst 0, 1) := by decide +kernel
theorem dX12_ring_267 : decode cX12_ring 267 = .ok (.istore 8, 2) := by decide +kernel
theorem dX12_ring_269 : decode cX12_ring 269 = .ok (.iconst 0, 1) := by decide +kernel
theorem dX12_ring_270 : decode cX12_ring 270 = .ok (.istore 9, 2) := by decide +kernel
theorem dX12_ring_272 : decode cX12_ring 272 = .ok (.iload 9, 2) := by decide +kernel
theorem dX12_ring_274 : decode cX12_ring 274 = .ok (.iload 5, 2) := by decide +kernel
theorem dX12_ring_276 : decode cX12_ring 276 = .ok (.if_icmp .ge 22, 3) := by decide +kernel
theorem dX12_ring_279 : decode cX12_ring 279 = .ok (.iload 8, 2) := by decide +kernel
theorem dX12_ring_281 : decode cX12_ring 281 = .ok (.ifCond .ne 17, 3) := by decide +kernel
theorem dX12_ring_284 : decode cX12_ring 284 = .ok (.aload_n 0, 1) := by decide +kernel
theorem dX12_ring_285 : decode cX12_ring 285 = .ok (.iload 9, 2) := by decide +kernel
theorem dX12_ring_287 : decode cX12_ring 287 = .ok (.invokevirtual 177, 3) := by decide +kernel
theorem dX12_ring_290 : decode cX12_ring 290 = .ok (.istore 8, 2) := by decide +kernel
theorem dX12_ring_292 : decode cX12_ring 292 = .ok (.iinc 9 1, 3) := by decide +kernel
theorem dX12_ring_295 : decode cX12_ring 295 = .ok (.goto (-23), 3) := by decide +kernel
theorem dX12_ring_298 : decode cX12_ring 298 = .ok (.iload 8, 2) := by decide +kernel
theorem dX12_ring_300 : decode cX12_ring 300 = .ok (.ifCond .ne 62, 3) := by decide +kernel
theorem dX12_ring_303 : decode cX12_ring 303 = .ok (.iload 5, 2) := by decide +kernel
theorem dX12_ring_305 : decode cX12_ring 305 = .ok (.sipush 300, 3) := by decide +kernel
theorem dX12_ring_308 : decode cX12_ring 308 = .ok (.if_icmp .ne 11, 3) := by decide +kernel
theorem dX12_ring_311 : decode cX12_ring 311 = .ok (.aload_n 0, 1) := by decide +kernel
theorem dX12_ring_312 : decode cX12_ring 312 = .ok (.iload_n 2, 1) := by decide +kernel
theorem dX12_ring_313 : decode cX12_ring 313 = .ok (.putfield 82, 3) := by decide +kernel
theorem dX12_ring_316 : decode cX12_ring 316 = .ok (.ldc 167, 2) := by decide +kernel
theorem dX12_ring_318 : decode cX12_ring 318 = .ok (.ireturn, 1) := by decide +kernel
theorem dX12_ring_319 : decode cX12_ring 319 = .ok (.iconst 0, 1) := by decide +kernel
theorem dX12_ring_320 : decode cX12_ring 320 = .ok (.istore 9, 2) := by decide +kernel
theorem dX12_ring_322 : decode cX12_ring 322 = .ok (.iload 9, 2) := by decide +kernel
theorem dX12_ring_324 : decode cX12_ring 324 = .ok (.bipush 96, 2) := by decide +kernel
theorem dX12_ring_326 : decode cX12_ring 326 = .ok (.if_icmp .ge 33, 3) := by decide +kernel
theorem dX12_ring_329 : decode cX12_ring 329 = .ok (.aload_n 0, 1) := by decide +kernel
theorem dX12_ring_330 : decode cX12_ring 330 = .ok (.getfield 59, 3) := by decide +kernel
theorem dX12_ring_333 : decode cX12_ring 333 = .ok (.bipush 96, 2) := by decide +kernel
theorem dX12_ring_335 : decode cX12_ring 335 = .ok (.iload 5, 2) := by decide +kernel
theorem dX12_ring_337 : decode cX12_ring 337 = .ok (.imul, 1) := by decide +kernel
theorem dX12_ring_338 : decode cX12_ring 338 = .ok (.iload 9, 2) := by decide +kernel
theorem dX12_ring_340 : decode cX12_ring 340 = .ok (.iadd, 1) := by decide +kernel
theorem dX12_ring_341 : decode cX12_ring 341 = .ok (.aload_n 0, 1) := by decide +kernel
theorem dX12_ring_342 : decode cX12_ring 342 = .ok (.getfield 25, 3) := by decide +kernel
theorem dX12_ring_345 : decode cX12_ring 345 = .ok (.sipush 960, 3) := by decide +kernel
theorem dX12_ring_348 : decode cX12_ring 348 = .ok (.iload 9, 2) := by decide +kernel
theorem dX12_ring_350 : decode cX12_ring 350 = .ok (.iadd, 1) := by decide +kernel
theorem dX12_ring_351 : decode cX12_ring 351 = .ok (.iaload, 1) := by decide +kernel
theorem dX12_ring_352 : decode cX12_ring 352 = .ok (.iastore, 1) := by decide +kernel
theorem dX12_ring_353 : decode cX12_ring 353 = .ok (.iinc 9 1, 3) := by decide +kernel
theorem dX12_ring_356 : decode cX12_ring 356 = .ok (.goto (-34), 3) := by decide +kernel
theorem dX12_ring_359 : decode cX12_ring 359 = .ok (.iinc 5 1, 3) := by decide +kernel
theorem dX12_ring_362 : decode cX12_ring 362 = .ok (.iinc 7 1, 3) := by decide +kernel
theorem dX12_ring_365 : decode cX12_ring 365 = .ok (.goto (-233), 3) := by decide +kernel
theorem dX12_ring_368 : decode cX12_ring 368 = .ok (.iinc 6 1, 3) := by decide +kernel
theorem dX12_ring_371 : decode cX12_ring 371 = .ok (.goto (-249), 3) := by decide +kernel
theorem dX12_ring_374 : decode cX12_ring 374 = .ok (.iload 5, 2) := by decide +kernel
theorem dX12_ring_376 : decode cX12_ring 376 = .ok (.ireturn, 1) := by decide +kernel
theorem dX12_lift_0 : decode cX12_lift 0 = .ok (.aload_n 0, 1) := by decide +kernel
theorem dX12_lift_1 : decode cX12_lift 1 = .ok (.iconst 0, 1) := by decide +kernel
theorem dX12_lift_2 : decode cX12_lift 2 = .ok (.putfield 78, 3) := by decide +kernel
theorem dX12_lift_5 : decode cX12_lift 5 = .ok (.iload_n 1, 1) := by decide +kernel
theorem dX12_lift_6 : decode cX12_lift 6 = .ok (.invokestatic 120, 3) := by decide +kernel
theorem dX12_lift_9 : decode cX12_lift 9 = .ok (.ifCond .eq 23, 3) := by decide +kernel
theorem dX12_lift_12 : decode cX12_lift 12 = .ok (.iload_n 2, 1) := by decide +kernel
theorem dX12_lift_13 : decode cX12_lift 13 = .ok (.invokestatic 92, 3) := by decide +kernel
theorem dX12_lift_16 : decode cX12_lift 16 = .ok (.ifCond .eq 16, 3) := by decide +kernel
theorem dX12_lift_19 : decode cX12_lift 19 = .ok (.iload 4, 2) := by decide +kernel
theorem dX12_lift_21 : decode cX12_lift 21 = .ok (.i2l, 1) := by decide +kernel
theorem dX12_lift_22 : decode cX12_lift 22 = .ok (.lconst 0, 1) := by decide +kernel
theorem dX12_lift_23 : decode cX12_lift 23 = .ok (.ldc2_w 180, 3) := by decide +kernel
theorem dX12_lift_26 : decode cX12_lift 26 = .ok (.invokestatic 88, 3) := by decide +kernel
theorem dX12_lift_29 : decode cX12_lift 29 = .ok (.ifCond .ne 6, 3) := by decide +kernel
theorem dX12_lift_32 : decode cX12_lift 32 = .ok (.ldc 98, 2) := by decide +kernel
theorem dX12_lift_34 : decode cX12_lift 34 = .ok (.ireturn, 1) := by decide +kernel
theorem dX12_lift_35 : decode cX12_lift 35 = .ok (.aload_n 0, 1) := by decide +kernel
theorem dX12_lift_36 : decode cX12_lift 36 = .ok (.getfield 82, 3) := by decide +kernel
theorem dX12_lift_39 : decode cX12_lift 39 = .ok (.istore 6, 2) := by decide +kernel
theorem dX12_lift_41 : decode cX12_lift 41 = .ok (.aload_n 0, 1) := by decide +kernel
theorem dX12_lift_42 : decode cX12_lift 42 = .ok (.iload_n 1, 1) := by decide +kernel
theorem dX12_lift_43 : decode cX12_lift 43 = .ok (.iconst 0, 1) := by decide +kernel
theorem dX12_lift_44 : decode cX12_lift 44 = .ok (.invokevirtual 137, 3) := by decide +kernel
theorem dX12_lift_47 : decode cX12_lift 47 = .ok (.istore 7, 2) := by decide +kernel
theorem dX12_lift_49 : decode cX12_lift 49 = .ok (.iload 7, 2) := by decide +kernel
theorem dX12_lift_51 : decode cX12_lift 51 = .ok (.ifCond .ge 6, 3) := by decide +kernel
theorem dX12_lift_54 : decode cX12_lift 54 = .ok (.iload 7, 2) := by decide +kernel
theorem dX12_lift_56 : decode cX12_lift 56 = .ok (.ireturn, 1) := by decide +kernel
theorem dX12_lift_57 : decode cX12_lift 57 = .ok (.aload_n 0, 1) := by decide +kernel
theorem dX12_lift_58 : decode cX12_lift 58 = .ok (.getfield 7, 3) := by decide +kernel
theorem dX12_lift_61 : decode cX12_lift 61 = .ok (.iload_n 2, 1) := by decide +kernel
theorem dX12_lift_62 : decode cX12_lift 62 = .ok (.iaload, 1) := by decide +kernel
theorem dX12_lift_63 : decode cX12_lift 63 = .ok (.ifCond .ge 9, 3) := by decide +kernel
theorem dX12_lift_66 : decode cX12_lift 66 = .ok (.aload_n 0, 1) := by decide +kernel
theorem dX12_lift_67 : decode cX12_lift 67 = .ok (.iconst 1, 1) := by decide +kernel
theorem dX12_lift_68 : decode cX12_lift 68 = .ok (.invokevirtual 99, 3) := by decide +kernel
theorem dX12_lift_71 : decode cX12_lift 71 = .ok (.ireturn, 1) := by decide +kernel
theorem dX12_lift_72 : decode cX12_lift 72 = .ok (.iload_n 3, 1) := by decide +kernel
theorem dX12_lift_73 : decode cX12_lift 73 = .ok (.ifCond .lt 20, 3) := by decide +kernel
theorem dX12_lift_76 : decode cX12_lift 76 = .ok (.iload_n 3, 1) := by decide +kernel
theorem dX12_lift_77 : decode cX12_lift 77 = .ok (.i2l, 1) := by decide +kernel
theorem dX12_lift_78 : decode cX12_lift 78 = .ok (.iload 4, 2) := by decide +kernel
theorem dX12_lift_80 : decode cX12_lift 80 = .ok (.i2l, 1) := by decide +kernel
theorem dX12_lift_81 : decode cX12_lift 81 = .ok (.ladd, 1) := by decide +kernel
theorem dX12_lift_82 : decode cX12_lift 82 = .ok (.aload_n 0, 1) := by decide +kernel
theorem dX12_lift_83 : decode cX12_lift 83 = .ok (.getfield 13, 3) := by decide +kernel
theorem dX12_lift_86 : decode cX12_lift 86 = .ok (.iload_n 2, 1) := by decide +kernel
theorem dX12_lift_87 : decode cX12_lift 87 = .ok (.iaload, 1) := by decide +kernel
theorem dX12_lift_88 : decode cX12_lift 88 = .ok (.i2l, 1) := by decide +kernel
theorem dX12_lift_89 : decode cX12_lift 89 = .ok (.lcmp, 1) := by decide +kernel
theorem dX12_lift_90 : decode cX12_lift 90 = .ok (.ifCond .le 9, 3) := by decide +kernel
theorem dX12_lift_93 : decode cX12_lift 93 = .ok (.aload_n 0, 1) := by decide +kernel
theorem dX12_lift_94 : decode cX12_lift 94 = .ok (.iconst 2, 1) := by decide +kernel
theorem dX12_lift_95 : decode cX12_lift 95 = .ok (.invokevirtual 99, 3) := by decide +kernel
theorem dX12_lift_98 : decode cX12_lift 98 = .ok (.ireturn, 1) := by decide +kernel
theorem dX12_lift_99 : decode cX12_lift 99 = .ok (.aload_n 0, 1) := by decide +kernel
theorem dX12_lift_100 : decode cX12_lift 100 = .ok (.iload_n 1, 1) := by decide +kernel
theorem dX12_lift_101 : decode cX12_lift 101 = .ok (.iload 5, 2) := by decide +kernel
theorem dX12_lift_103 : decode cX12_lift 103 = .ok (.invokevirtual 154, 3) := by decide +kernel
theorem dX12_lift_106 : decode cX12_lift 106 = .ok (.istore 8, 2) := by decide +kernel
theorem dX12_lift_108 : decode cX12_lift 108 = .ok (.iconst 0, 1) := by decide +kernel
theorem dX12_lift_109 : decode cX12_lift 109 = .ok (.istore 9, 2) := by decide +kernel
theorem dX12_lift_111 : decode cX12_lift 111 = .ok (.iload 9, 2) := by decide +kernel
theorem dX12_lift_113 : decode cX12_lift 113 = .ok (.iload 4, 2) := by decide +kernel
theorem dX12_lift_115 : decode cX12_lift 115 = .ok (.if_icmp .ge 66, 3) := by decide +kernel
theorem dX12_lift_118 : decode cX12_lift 118 = .ok (.aload_n 0, 1) := by decide +kernel
theorem dX12_lift_119 : decode cX12_lift 119 = .ok (.getfield 16, 3) := by decide +kernel
theorem dX12_lift_122 : decode cX12_lift 122 = .ok (.bipush 96, 2) := by decide +kernel
theorem dX12_lift_124 : decode cX12_lift 124 = .ok (.iload_n 2, 1) := by decide +kernel
theorem dX12_lift_125 : decode cX12_lift 125 = .ok (.imul, 1) := by decide +kernel
theorem dX12_lift_126 : decode cX12_lift 126 = .ok (.iload_n 3, 1) := by decide +kernel
theorem dX12_lift_127 : decode cX12_lift 127 = .ok (.iadd, 1) := by decide +kernel
theorem dX12_lift_128 : decode cX12_lift 128 = .ok (.iload 9, 2) := by decide +kernel
theorem dX12_lift_130 : decode cX12_lift 130 = .ok (.iadd, 1) := by decide +kernel
theorem dX12_lift_131 : decode cX12_lift 131 = .ok (.iaload, 1) := by decide +kernel
theorem dX12_lift_132 : decode cX12_lift 132 = .ok (.istore 10, 2) := by decide +kernel
theorem dX12_lift_134 : decode cX12_lift 134 = .ok (.iload 8, 2) := by decide +kernel
theorem dX12_lift_136 : decode cX12_lift 136 = .ok (.ifCond .eq 36, 3) := by decide +kernel
theorem dX12_lift_139 : decode cX12_lift 139 = .ok (.iload 10, 2) := by decide +kernel
theorem dX12_lift_141 : decode cX12_lift 141 = .ok (.ifCond .eq 31, 3) := by decide +kernel
theorem dX12_lift_144 : decode cX12_lift 144 = .ok (.iload 10, 2) := by decide +kernel
theorem dX12_lift_146 : decode cX12_lift 146 = .ok (.i2l, 1) := by decide +kernel
theorem dX12_lift_147 : decode cX12_lift 147 = .ok (.aload_n 0, 1) := by decide +kernel
theorem dX12_lift_148 : decode cX12_lift 148 = .ok (.getfield 22, 3) := by decide +kernel
theorem dX12_lift_151 : decode cX12_lift 151 = .ok (.iload_n 1, 1) := by decide +kernel
theorem dX12_lift_152 : decode cX12_lift 152 = .ok (.iaload, 1) := by decide +kernel
theorem dX12_lift_153 : decode cX12_lift 153 = .ok (.ineg, 1) := by decide +kernel
theorem dX12_lift_154 : decode cX12_lift 154 = .ok (.i2l, 1) := by decide +kernel
theorem dX12_lift_155 : decode cX12_lift 155 = .ok (.aload_n 0, 1) := by decide +kernel
theorem dX12_lift_156 : decode cX12_lift 156 = .ok (.getfield 22, 3) := by decide +kernel
theorem dX12_lift_159 : decode cX12_lift 159 = .ok (.iload_n 1, 1) := by decide +kernel
theorem dX12_lift_160 : decode cX12_lift 160 = .ok (.iaload, 1) := by decide +kernel
theorem dX12_lift_161 : decode cX12_lift 161 = .ok (.i2l, 1) := by decide +kernel
theorem dX12_lift_162 : decode cX12_lift 162 = .ok (.invokestatic 88, 3) := by decide +kernel
theorem dX12_lift_165 : decode cX12_lift 165 = .ok (.ifCond .eq 7, 3) := by decide +kernel
theorem dX12_lift_168 : decode cX12_lift 168 = .ok (.iconst 1, 1) := by decide +kernel
theorem dX12_lift_169 : decode cX12_lift 169 = .ok (.goto 4, 3) := by decide +kernel
theorem dX12_lift_172 : decode cX12_lift 172 = .ok (.iconst 0, 1) := by decide +kernel
theorem dX12_lift_173 : decode cX12_lift 173 = .ok (.istore 8, 2) := by decide +kernel
theorem dX12_lift_175 : decode cX12_lift 175 = .ok (.iinc 9 1, 3) := by decide +kernel
theorem dX12_lift_178 : decode cX12_lift 178 = .ok (.goto (-67), 3) := by decide +kernel
theorem dX12_lift_181 : decode cX12_lift 181 = .ok (.iload 8, 2) := by decide +kernel
theorem dX12_lift_183 : decode cX12_lift 183 = .ok (.ifCond .ne 12, 3) := by decide +kernel
theorem dX12_lift_186 : decode cX12_lift 186 = .ok (.aload_n 0, 1) := by decide +kernel
theorem dX12_lift_187 : decode cX12_lift 187 = .ok (.iload 6, 2) := by decide +kernel
theorem dX12_lift_189 : decode cX12_lift 189 = .ok (.putfield 82, 3) := by decide +kernel
theorem dX12_lift_192 : decode cX12_lift 192 = .ok (.ldc 98, 2) := by decide +kernel
theorem dX12_lift_194 : decode cX12_lift 194 = .ok (.ireturn, 1) := by decide +kernel
theorem dX12_lift_195 : decode cX12_lift 195 = .ok (.iload 5, 2) := by decide +kernel
theorem dX12_lift_197 : decode cX12_lift 197 = .ok (.istore 9, 2) := by decide +kernel
theorem dX12_lift_199 : decode cX12_lift 199 = .ok (.iconst 0, 1) := by decide +kernel
theorem dX12_lift_200 : decode cX12_lift 200 = .ok (.istore 10, 2) := by decide +kernel
theorem dX12_lift_202 : decode cX12_lift 202 = .ok (.iload 10, 2) := by decide +kernel
theorem dX12_lift_204 : decode cX12_lift 204 = .ok (.iload 4, 2) := by decide +kernel
theorem dX12_lift_206 : decode cX12_lift 206 = .ok (.if_icmp .ge 58, 3) := by decide +kernel
theorem dX12_lift_209 : decode cX12_lift 209 = .ok (.aload_n 0, 1) := by decide +kernel
theorem dX12_lift_210 : decode cX12_lift 210 = .ok (.getfield 16, 3) := by decide +kernel
theorem dX12_lift_213 : decode cX12_lift 213 = .ok (.bipush 96, 2) := by decide +kernel
theorem dX12_lift_215 : decode cX12_lift 215 = .ok (.iload_n 2, 1) := by decide +kernel
theorem dX12_lift_216 : decode cX12_lift 216 = .ok (.imul, 1) := by decide +kernel
theorem dX12_lift_217 : decode cX12_lift 217 = .ok (.iload_n 3, 1) := by decide +kernel
theorem dX12_lift_218 : decode cX12_lift 218 = .ok (.iadd, 1) := by decide +kernel
theorem dX12_lift_219 : decode cX12_lift 219 = .ok (.iload 10, 2) := by decide +kernel
theorem dX12_lift_221 : decode cX12_lift 221 = .ok (.iadd, 1) := by decide +kernel
theorem dX12_lift_222 : decode cX12_lift 222 = .ok (.iaload, 1) := by decide +kernel
theorem dX12_lift_223 : decode cX12_lift 223 = .ok (.istore 11, 2) := by decide +kernel
theorem dX12_lift_225 : decode cX12_lift 225 = .ok (.iload 11, 2) := by decide +kernel
theorem dX12_lift_227 : decode cX12_lift 227 = .ok (.ifCond .le 17, 3) := by decide +kernel
theorem dX12_lift_230 : decode cX12_lift 230 = .ok (.aload_n 0, 1) := by decide +kernel
theorem dX12_lift_231 : decode cX12_lift 231 = .ok (.iload_n 1, 1) := by decide +kernel
theorem dX12_lift_232 : decode cX12_lift 232 = .ok (.iload 11, 2) := by decide +kernel
theorem dX12_lift_234 : decode cX12_lift 234 = .ok (.iconst 1, 1) := by decide +kernel
theorem dX12_lift_235 : decode cX12_lift 235 = .ok (.isub, 1) := by decide +kernel
theorem dX12_lift_236 : decode cX12_lift 236 = .ok (.iload 9, 2) := by decide +kernel
theorem dX12_lift_238 : decode cX12_lift 238 = .ok (.invokevirtual 105, 3) := by decide +kernel
theorem dX12_lift_241 : decode cX12_lift 241 = .ok (.goto 15, 3) := by decide +kernel
theorem dX12_lift_244 : decode cX12_lift 244 = .ok (.aload_n 0, 1) := by decide +kernel
theorem dX12_lift_245 : decode cX12_lift 245 = .ok (.iload_n 1, 1) := by decide +kernel
theorem dX12_lift_246 : decode cX12_lift 246 = .ok (.iload 11, 2) := by decide +kernel
theorem dX12_lift_248 : decode cX12_lift 248 = .ok (.ineg, 1) := by decide +kernel
theorem dX12_lift_249 : decode cX12_lift 249 = .ok (.iconst 1, 1) := by decide +kernel
theorem dX12_lift_250 : decode cX12_lift 250 = .ok (.isub, 1) := by decide +kernel
theorem dX12_lift_251 : decode cX12_lift 251 = .ok (.iload 9, 2) := by decide +kernel
theorem dX12_lift_253 : decode cX12_lift 253 = .ok (.invokevirtual 161, 3) := by decide +kernel
theorem dX12_lift_256 : decode cX12_lift 256 = .ok (.istore 9, 2) := by decide +kernel
theorem dX12_lift_258 : decode cX12_lift 258 = .ok (.iinc 10 1, 3) := by decide +kernel
theorem dX12_lift_261 : decode cX12_lift 261 = .ok (.goto (-59), 3) := by decide +kernel
theorem dX12_lift_264 : decode cX12_lift 264 = .ok (.iload 9, 2) := by decide +kernel
theorem dX12_lift_266 : decode cX12_lift 266 = .ok (.ireturn, 1) := by decide +kernel
theorem dX12_kind_0 : decode cX12_kind 0 = .ok (.aload_n 0, 1) := by decide +kernel
theorem dX12_kind_1 : decode cX12_kind 1 = .ok (.iconst 0, 1) := by decide +kernel
theorem dX12_kind_2 : decode cX12_kind 2 = .ok (.putfield 78, 3) := by decide +kernel
theorem dX12_kind_5 : decode cX12_kind 5 = .ok (.iload_n 1, 1) := by decide +kernel
theorem dX12_kind_6 : decode cX12_kind 6 = .ok (.invokestatic 120, 3) := by decide +kernel
theorem dX12_kind_9 : decode cX12_kind 9 = .ok (.ifCond .ne 6, 3) := by decide +kernel
theorem dX12_kind_12 : decode cX12_kind 12 = .ok (.ldc 98, 2) := by decide +kernel
theorem dX12_kind_14 : decode cX12_kind 14 = .ok (.ireturn, 1) := by decide +kernel
theorem dX12_kind_15 : decode cX12_kind 15 = .ok (.aload_n 0, 1) := by decide +kernel
theorem dX12_kind_16 : decode cX12_kind 16 = .ok (.iload_n 1, 1) := by decide +kernel
theorem dX12_kind_17 : decode cX12_kind 17 = .ok (.iconst 0, 1) := by decide +kernel
theorem dX12_kind_18 : decode cX12_kind 18 = .ok (.invokevirtual 137, 3) := by decide +kernel
theorem dX12_kind_21 : decode cX12_kind 21 = .ok (.istore_n 2, 1) := by decide +kernel
theorem dX12_kind_22 : decode cX12_kind 22 = .ok (.iload_n 2, 1) := by decide +kernel
theorem dX12_kind_23 : decode cX12_kind 23 = .ok (.ifCond .ge 7, 3) := by decide +kernel
theorem dX12_kind_26 : decode cX12_kind 26 = .ok (.iload_n 2, 1) := by decide +kernel
theorem dX12_kind_27 : decode cX12_kind 27 = .ok (.goto 8, 3) := by decide +kernel
theorem dX12_kind_30 : decode cX12_kind 30 = .ok (.aload_n 0, 1) := by decide +kernel
theorem dX12_kind_31 : decode cX12_kind 31 = .ok (.iload_n 1, 1) := by decide +kernel
theorem dX12_kind_32 : decode cX12_kind 32 = .ok (.invokevirtual 117, 3) := by decide +kernel
theorem dX12_kind_35 : decode cX12_kind 35 = .ok (.ireturn, 1) := by decide +kernel
theorem dX12_isOf_0 : decode cX12_isOf 0 = .ok (.iload_n 1, 1) := by decide +kernel
theorem dX12_isOf_1 : decode cX12_isOf 1 = .ok (.ifCond .eq 33, 3) := by decide +kernel
theorem dX12_isOf_4 : decode cX12_isOf 4 = .ok (.iload_n 0, 1) := by decide +kernel
theorem dX12_isOf_5 : decode cX12_isOf 5 = .ok (.iload_n 1, 1) := by decide +kernel
theorem dX12_isOf_6 : decode cX12_isOf 6 = .ok (.if_icmp .eq 28, 3) := by decide +kernel
theorem dX12_isOf_9 : decode cX12_isOf 9 = .ok (.iload_n 1, 1) := by decide +kernel
theorem dX12_isOf_10 : decode cX12_isOf 10 = .ok (.iconst 3, 1) := by decide +kernel
theorem dX12_isOf_11 : decode cX12_isOf 11 = .ok (.if_icmp .ne 8, 3) := by decide +kernel
theorem dX12_isOf_14 : decode cX12_isOf 14 = .ok (.iload_n 0, 1) := by decide +kernel
theorem dX12_isOf_15 : decode cX12_isOf 15 = .ok (.iconst 4, 1) := by decide +kernel
theorem dX12_isOf_16 : decode cX12_isOf 16 = .ok (.if_icmp .eq 18, 3) := by decide +kernel
theorem dX12_isOf_19 : decode cX12_isOf 19 = .ok (.iload_n 1, 1) := by decide +kernel
theorem dX12_isOf_20 : decode cX12_isOf 20 = .ok (.iconst 2, 1) := by decide +kernel
theorem dX12_isOf_21 : decode cX12_isOf 21 = .ok (.if_icmp .ne 17, 3) := by decide +kernel
theorem dX12_isOf_24 : decode cX12_isOf 24 = .ok (.iload_n 0, 1) := by decide +kernel
theorem dX12_isOf_25 : decode cX12_isOf 25 = .ok (.iconst 3, 1) := by decide +kernel
theorem dX12_isOf_26 : decode cX12_isOf 26 = .ok (.if_icmp .eq 8, 3) := by decide +kernel
theorem dX12_isOf_29 : decode cX12_isOf 29 = .ok (.iload_n 0, 1) := by decide +kernel
theorem dX12_isOf_30 : decode cX12_isOf 30 = .ok (.iconst 4, 1) := by decide +kernel
theorem dX12_isOf_31 : decode cX12_isOf 31 = .ok (.if_icmp .ne 7, 3) := by decide +kernel
theorem dX12_isOf_34 : decode cX12_isOf 34 = .ok (.iconst 1, 1) := by decide +kernel
theorem dX12_isOf_35 : decode cX12_isOf 35 = .ok (.goto 4, 3) := by decide +kernel
theorem dX12_isOf_38 : decode cX12_isOf 38 = .ok (.iconst 0, 1) := by decide +kernel
theorem dX12_isOf_39 : decode cX12_isOf 39 = .ok (.ireturn, 1) := by decide +kernel
theorem dX12_is_0 : decode cX12_is 0 = .ok (.aload_n 0, 1) := by decide +kernel
theorem dX12_is_1 : decode cX12_is 1 = .ok (.iconst 0, 1) := by decide +kernel
theorem dX12_is_2 : decode cX12_is 2 = .ok (.putfield 78, 3) := by decide +kernel
theorem dX12_is_5 : decode cX12_is 5 = .ok (.iload_n 1, 1) := by decide +kernel
theorem dX12_is_6 : decode cX12_is 6 = .ok (.invokestatic 120, 3) := by decide +kernel
theorem dX12_is_9 : decode cX12_is 9 = .ok (.ifCond .eq 15, 3) := by decide +kernel
theorem dX12_is_12 : decode cX12_is 12 = .ok (.iload_n 2, 1) := by decide +kernel
theorem dX12_is_13 : decode cX12_is 13 = .ok (.i2l, 1) := by decide +kernel
theorem dX12_is_14 : decode cX12_is 14 = .ok (.lconst 0, 1) := by decide +kernel
theorem dX12_is_15 : decode cX12_is 15 = .ok (.ldc2_w 182, 3) := by decide +kernel
theorem dX12_is_18 : decode cX12_is 18 = .ok (.invokestatic 88, 3) := by decide +kernel
theorem dX12_is_21 : decode cX12_is 21 = .ok (.ifCond .ne 8, 3) := by decide +kernel
theorem dX12_is_24 : decode cX12_is 24 = .ok (.ldc 98, 2) := by decide +kernel
theorem dX12_is_26 : decode cX12_is 26 = .ok (.goto 29, 3) := by decide +kernel
theorem dX12_is_29 : decode cX12_is 29 = .ok (.aload_n 0, 1) := by decide +kernel
theorem dX12_is_30 : decode cX12_is 30 = .ok (.getfield 19, 3) := by decide +kernel
theorem dX12_is_33 : decode cX12_is 33 = .ok (.iload_n 1, 1) := by decide +kernel
theorem dX12_is_34 : decode cX12_is 34 = .ok (.iaload, 1) := by decide +kernel
theorem dX12_is_35 : decode cX12_is 35 = .ok (.ifCond .le 19, 3) := by decide +kernel
theorem dX12_is_38 : decode cX12_is 38 = .ok (.aload_n 0, 1) := by decide +kernel
theorem dX12_is_39 : decode cX12_is 39 = .ok (.iload_n 1, 1) := by decide +kernel
theorem dX12_is_40 : decode cX12_is 40 = .ok (.invokevirtual 117, 3) := by decide +kernel
theorem dX12_is_43 : decode cX12_is 43 = .ok (.iload_n 2, 1) := by decide +kernel
theorem dX12_is_44 : decode cX12_is 44 = .ok (.invokestatic 184, 3) := by decide +kernel
theorem dX12_is_47 : decode cX12_is 47 = .ok (.ifCond .eq 7, 3) := by decide +kernel
theorem dX12_is_50 : decode cX12_is 50 = .ok (.iconst 1, 1) := by decide +kernel
theorem dX12_is_51 : decode cX12_is 51 = .ok (.goto 4, 3) := by decide +kernel
theorem dX12_is_54 : decode cX12_is 54 = .ok (.iconst 0, 1) := by decide +kernel
theorem dX12_is_55 : decode cX12_is 55 = .ok (.ireturn, 1) := by decide +kernel
theorem dX12_as_0 : decode cX12_as 0 = .ok (.aload_n 0, 1) := by decide +kernel
theorem dX12_as_1 : decode cX12_as 1 = .ok (.iconst 0, 1) := by decide +kernel
theorem dX12_as_2 : decode cX12_as 2 = .ok (.putfield 78, 3) := by decide +kernel
theorem dX12_as_5 : decode cX12_as 5 = .ok (.iload_n 1, 1) := by decide +kernel
theorem dX12_as_6 : decode cX12_as 6 = .ok (.invokestatic 120, 3) := by decide +kernel
theorem dX12_as_9 : decode cX12_as 9 = .ok (.ifCond .eq 15, 3) := by decide +kernel
theorem dX12_as_12 : decode cX12_as 12 = .ok (.iload_n 2, 1) := by decide +kernel
theorem dX12_as_13 : decode cX12_as 13 = .ok (.i2l, 1) := by decide +kernel
theorem dX12_as_14 : decode cX12_as 14 = .ok (.lconst 0, 1) := by decide +kernel
theorem dX12_as_15 : decode cX12_as 15 = .ok (.ldc2_w 182, 3) := by decide +kernel
theorem dX12_as_18 : decode cX12_as 18 = .ok (.invokestatic 88, 3) := by decide +kernel
theorem dX12_as_21 : decode cX12_as 21 = .ok (.ifCond .ne 6, 3) := by decide +kernel
theorem dX12_as_24 : decode cX12_as 24 = .ok (.ldc 98, 2) := by decide +kernel
theorem dX12_as_26 : decode cX12_as 26 = .ok (.ireturn, 1) := by decide +kernel
theorem dX12_as_27 : decode cX12_as 27 = .ok (.aload_n 0, 1) := by decide +kernel
theorem dX12_as_28 : decode cX12_as 28 = .ok (.iload_n 1, 1) := by decide +kernel
theorem dX12_as_29 : decode cX12_as 29 = .ok (.iconst 0, 1) := by decide +kernel
theorem dX12_as_30 : decode cX12_as 30 = .ok (.invokevirtual 137, 3) := by decide +kernel
theorem dX12_as_33 : decode cX12_as 33 = .ok (.istore_n 3, 1) := by decide +kernel
theorem dX12_as_34 : decode cX12_as 34 = .ok (.iload_n 3, 1) := by decide +kernel
theorem dX12_as_35 : decode cX12_as 35 = .ok (.ifCond .ge 7, 3) := by decide +kernel
theorem dX12_as_38 : decode cX12_as 38 = .ok (.iload_n 3, 1) := by decide +kernel
theorem dX12_as_39 : decode cX12_as 39 = .ok (.goto 29, 3) := by decide +kernel
theorem dX12_as_42 : decode cX12_as 42 = .ok (.aload_n 0, 1) := by decide +kernel
theorem dX12_as_43 : decode cX12_as 43 = .ok (.iload_n 1, 1) := by decide +kernel
theorem dX12_as_44 : decode cX12_as 44 = .ok (.invokevirtual 117, 3) := by decide +kernel
theorem dX12_as_47 : decode cX12_as 47 = .ok (.iload_n 2, 1) := by decide +kernel
theorem dX12_as_48 : decode cX12_as 48 = .ok (.invokestatic 184, 3) := by decide +kernel
theorem dX12_as_51 : decode cX12_as 51 = .ok (.ifCond .eq 12, 3) := by decide +kernel
theorem dX12_as_54 : decode cX12_as 54 = .ok (.aload_n 0, 1) := by decide +kernel
theorem dX12_as_55 : decode cX12_as 55 = .ok (.getfield 19, 3) := by decide +kernel
theorem dX12_as_58 : decode cX12_as 58 = .ok (.iload_n 1, 1) := by decide +kernel
theorem dX12_as_59 : decode cX12_as 59 = .ok (.iaload, 1) := by decide +kernel
theorem dX12_as_60 : decode cX12_as 60 = .ok (.goto 8, 3) := by decide +kernel
theorem dX12_as_63 : decode cX12_as 63 = .ok (.aload_n 0, 1) := by decide +kernel
theorem dX12_as_64 : decode cX12_as 64 = .ok (.iconst 3, 1) := by decide +kernel
theorem dX12_as_65 : decode cX12_as 65 = .ok (.invokevirtual 99, 3) := by decide +kernel
theorem dX12_as_68 : decode cX12_as 68 = .ok (.ireturn, 1) := by decide +kernel
theorem dX12_began_0 : decode cX12_began 0 = .ok (.aload_n 0, 1) := by decide +kernel
theorem dX12_began_1 : decode cX12_began 1 = .ok (.getfield 187, 3) := by decide +kernel
theorem dX12_began_4 : decode cX12_began 4 = .ok (.bipush 16, 2) := by decide +kernel
theorem dX12_began_6 : decode cX12_began 6 = .ok (.if_icmp .ge 23, 3) := by decide +kernel
theorem dX12_began_9 : decode cX12_began 9 = .ok (.aload_n 0, 1) := by decide +kernel
theorem dX12_began_10 : decode cX12_began 10 = .ok (.getfield 62, 3) := by decide +kernel
theorem dX12_began_13 : decode cX12_began 13 = .ok (.aload_n 0, 1) := by decide +kernel
theorem dX12_began_14 : decode cX12_began 14 = .ok (.getfield 187, 3) := by decide +kernel
theorem dX12_began_17 : decode cX12_began 17 = .ok (.iload_n 1, 1) := by decide +kernel
theorem dX12_began_18 : decode cX12_began 18 = .ok (.iastore, 1) := by decide +kernel
theorem dX12_began_19 : decode cX12_began 19 = .ok (.aload_n 0, 1) := by decide +kernel
theorem dX12_began_20 : decode cX12_began 20 = .ok (.dup, 1) := by decide +kernel
theorem dX12_began_21 : decode cX12_began 21 = .ok (.getfield 187, 3) := by decide +kernel
theorem dX12_began_24 : decode cX12_began 24 = .ok (.iconst 1, 1) := by decide +kernel
theorem dX12_began_25 : decode cX12_began 25 = .ok (.iadd, 1) := by decide +kernel
theorem dX12_began_26 : decode cX12_began 26 = .ok (.putfield 187, 3) := by decide +kernel
theorem dX12_began_29 : decode cX12_began 29 = .ok (.return_, 1) := by decide +kernel
theorem dX12_marked_0 : decode cX12_marked 0 = .ok (.aload_n 0, 1) := by decide +kernel
theorem dX12_marked_1 : decode cX12_marked 1 = .ok (.iload_n 1, 1) := by decide +kernel
theorem dX12_marked_2 : decode cX12_marked 2 = .ok (.invokevirtual 117, 3) := by decide +kernel
theorem dX12_marked_5 : decode cX12_marked 5 = .ok (.istore_n 2, 1) := by decide +kernel
theorem dX12_marked_6 : decode cX12_marked 6 = .ok (.iload_n 2, 1) := by decide +kernel
theorem dX12_marked_7 : decode cX12_marked 7 = .ok (.iconst 4, 1) := by decide +kernel
theorem dX12_marked_8 : decode cX12_marked 8 = .ok (.if_icmp .ne 9, 3) := by decide +kernel
theorem dX12_marked_11 : decode cX12_marked 11 = .ok (.aload_n 0, 1) := by decide +kernel
theorem dX12_marked_12 : decode cX12_marked 12 = .ok (.bipush 22, 2) := by decide +kernel
theorem dX12_marked_14 : decode cX12_marked 14 = .ok (.invokevirtual 190, 3) := by decide +kernel
theorem dX12_marked_17 : decode cX12_marked 17 = .ok (.iload_n 2, 1) := by decide +kernel
theorem dX12_marked_18 : decode cX12_marked 18 = .ok (.iconst 2, 1) := by decide +kernel
theorem dX12_marked_19 : decode cX12_marked 19 = .ok (.invokestatic 184, 3) := by decide +kernel
theorem dX12_marked_22 : decode cX12_marked 22 = .ok (.ifCond .eq 9, 3) := by decide +kernel
theorem dX12_marked_25 : decode cX12_marked 25 = .ok (.aload_n 0, 1) := by decide +kernel
theorem dX12_marked_26 : decode cX12_marked 26 = .ok (.bipush 21, 2) := by decide +kernel
theorem dX12_marked_28 : decode cX12_marked 28 = .ok (.invokevirtual 190, 3) := by decide +kernel
theorem dX12_marked_31 : decode cX12_marked 31 = .ok (.aload_n 0, 1) := by decide +kernel
theorem dX12_marked_32 : decode cX12_marked 32 = .ok (.bipush 20, 2) := by decide +kernel
theorem dX12_marked_34 : decode cX12_marked 34 = .ok (.invokevirtual 190, 3) := by decide +kernel
theorem dX12_marked_37 : decode cX12_marked 37 = .ok (.aload_n 0, 1) := by decide +kernel
theorem dX12_marked_38 : decode cX12_marked 38 = .ok (.iload_n 1, 1) := by decide +kernel
theorem dX12_marked_39 : decode cX12_marked 39 = .ok (.invokevirtual 134, 3) := by decide +kernel
theorem dX12_marked_42 : decode cX12_marked 42 = .ok (.iload_n 2, 1) := by decide +kernel
theorem dX12_marked_43 : decode cX12_marked 43 = .ok (.iconst 2, 1) := by decide +kernel
theorem dX12_marked_44 : decode cX12_marked 44 = .ok (.invokestatic 184, 3) := by decide +kernel
theorem dX12_marked_47 : decode cX12_marked 47 = .ok (.ifCond .eq 8, 3) := by decide +kernel
theorem dX12_marked_50 : decode cX12_marked 50 = .ok (.bipush 100, 2) := by decide +kernel
theorem dX12_marked_52 : decode cX12_marked 52 = .ok (.goto 4, 3) := by decide +kernel
theorem dX12_marked_55 : decode cX12_marked 55 = .ok (.iconst 0, 1) := by decide +kernel
theorem dX12_marked_56 : decode cX12_marked 56 = .ok (.iadd, 1) := by decide +kernel
theorem dX12_marked_57 : decode cX12_marked 57 = .ok (.iload_n 2, 1) := by decide +kernel
theorem dX12_marked_58 : decode cX12_marked 58 = .ok (.iconst 4, 1) := by decide +kernel
theorem dX12_marked_59 : decode cX12_marked 59 = .ok (.if_icmp .ne 12, 3) := by decide +kernel
theorem dX12_marked_62 : decode cX12_marked 62 = .ok (.aload_n 0, 1) := by decide +kernel
theorem dX12_marked_63 : decode cX12_marked 63 = .ok (.iload_n 1, 1) := by decide +kernel
theorem dX12_marked_64 : decode cX12_marked 64 = .ok (.iconst 2, 1) := by decide +kernel
theorem dX12_marked_65 : decode cX12_marked 65 = .ok (.invokevirtual 109, 3) := by decide +kernel
theorem dX12_marked_68 : decode cX12_marked 68 = .ok (.goto 4, 3) := by decide +kernel
theorem dX12_marked_71 : decode cX12_marked 71 = .ok (.iconst 0, 1) := by decide +kernel
theorem dX12_marked_72 : decode cX12_marked 72 = .ok (.iadd, 1) := by decide +kernel
theorem dX12_marked_73 : decode cX12_marked 73 = .ok (.ireturn, 1) := by decide +kernel
theorem dX12_sized_0 : decode cX12_sized 0 = .ok (.aload_n 0, 1) := by decide +kernel
theorem dX12_sized_1 : decode cX12_sized 1 = .ok (.iload_n 1, 1) := by decide +kernel
theorem dX12_sized_2 : decode cX12_sized 2 = .ok (.invokevirtual 117, 3) := by decide +kernel
theorem dX12_sized_5 : decode cX12_sized 5 = .ok (.istore_n 2, 1) := by decide +kernel
theorem dX12_sized_6 : decode cX12_sized 6 = .ok (.iload_n 2, 1) := by decide +kernel
theorem dX12_sized_7 : decode cX12_sized 7 = .ok (.iconst 1, 1) := by decide +kernel
theorem dX12_sized_8 : decode cX12_sized 8 = .ok (.if_icmp .ne 29, 3) := by decide +kernel
theorem dX12_sized_11 : decode cX12_sized 11 = .ok (.aload_n 0, 1) := by decide +kernel
theorem dX12_sized_12 : decode cX12_sized 12 = .ok (.bipush 11, 2) := by decide +kernel
theorem dX12_sized_14 : decode cX12_sized 14 = .ok (.invokevirtual 190, 3) := by decide +kernel
theorem dX12_sized_17 : decode cX12_sized 17 = .ok (.aload_n 0, 1) := by decide +kernel
theorem dX12_sized_18 : decode cX12_sized 18 = .ok (.bipush 10, 2) := by decide +kernel
theorem dX12_sized_20 : decode cX12_sized 20 = .ok (.invokevirtual 190, 3) := by decide +kernel
theorem dX12_sized_23 : decode cX12_sized 23 = .ok (.aload_n 0, 1) := by decide +kernel
theorem dX12_sized_24 : decode cX12_sized 24 = .ok (.getfield 19, 3) := by decide +kernel
theorem dX12_sized_27 : decode cX12_sized 27 = .ok (.iload_n 1, 1) := by decide +kernel
theorem dX12_sized_28 : decode cX12_sized 28 = .ok (.iaload, 1) := by decide +kernel
theorem dX12_sized_29 : decode cX12_sized 29 = .ok (.aload_n 0, 1) := by decide +kernel
theorem dX12_sized_30 : decode cX12_sized 30 = .ok (.getfield 22, 3) := by decide +kernel
theorem dX12_sized_33 : decode cX12_sized 33 = .ok (.iload_n 1, 1) := by decide +kernel
theorem dX12_sized_34 : decode cX12_sized 34 = .ok (.iaload, 1) := by decide +kernel
theorem dX12_sized_35 : decode cX12_sized 35 = .ok (.iadd, 1) := by decide +kernel
theorem dX12_sized_36 : decode cX12_sized 36 = .ok (.ireturn, 1) := by decide +kernel
theorem dX12_sized_37 : decode cX12_sized 37 = .ok (.iload_n 2, 1) := by decide +kernel
theorem dX12_sized_38 : decode cX12_sized 38 = .ok (.iconst 4, 1) := by decide +kernel
theorem dX12_sized_39 : decode cX12_sized 39 = .ok (.if_icmp .ne 9, 3) := by decide +kernel
theorem dX12_sized_42 : decode cX12_sized 42 = .ok (.aload_n 0, 1) := by decide +kernel
theorem dX12_sized_43 : decode cX12_sized 43 = .ok (.bipush 14, 2) := by decide +kernel
theorem dX12_sized_45 : decode cX12_sized 45 = .ok (.invokevirtual 190, 3) := by decide +kernel
theorem dX12_sized_48 : decode cX12_sized 48 = .ok (.iload_n 2, 1) := by decide +kernel
theorem dX12_sized_49 : decode cX12_sized 49 = .ok (.iconst 3, 1) := by decide +kernel
theorem dX12_sized_50 : decode cX12_sized 50 = .ok (.invokestatic 184, 3) := by decide +kernel
theorem dX12_sized_53 : decode cX12_sized 53 = .ok (.ifCond .eq 9, 3) := by decide +kernel
theorem dX12_sized_56 : decode cX12_sized 56 = .ok (.aload_n 0, 1) := by decide +kernel
theorem dX12_sized_57 : decode cX12_sized 57 = .ok (.bipush 13, 2) := by decide +kernel
theorem dX12_sized_59 : decode cX12_sized 59 = .ok (.invokevirtual 190, 3) := by decide +kernel
theorem dX12_sized_62 : decode cX12_sized 62 = .ok (.iload_n 2, 1) := by decide +kernel
theorem dX12_sized_63 : decode cX12_sized 63 = .ok (.iconst 2, 1) := by decide +kernel
theorem dX12_sized_64 : decode cX12_sized 64 = .ok (.invokestatic 184, 3) := by decide +kernel
theorem dX12_sized_67 : decode cX12_sized 67 = .ok (.ifCond .eq 9, 3) := by decide +kernel
theorem dX12_sized_70 : decode cX12_sized 70 = .ok (.aload_n 0, 1) := by decide +kernel
theorem dX12_sized_71 : decode cX12_sized 71 = .ok (.bipush 12, 2) := by decide +kernel
theorem dX12_sized_73 : decode cX12_sized 73 = .ok (.invokevirtual 190, 3) := by decide +kernel
theorem dX12_sized_76 : decode cX12_sized 76 = .ok (.aload_n 0, 1) := by decide +kernel
theorem dX12_sized_77 : decode cX12_sized 77 = .ok (.bipush 10, 2) := by decide +kernel
theorem dX12_sized_79 : decode cX12_sized 79 = .ok (.invokevirtual 190, 3) := by decide +kernel
theorem dX12_sized_82 : decode cX12_sized 82 = .ok (.aload_n 0, 1) := by decide +kernel
theorem dX12_sized_83 : decode cX12_sized 83 = .ok (.getfield 19, 3) := by decide +kernel
theorem dX12_sized_86 : decode cX12_sized 86 = .ok (.iload_n 1, 1) := by decide +kernel
theorem dX12_sized_87 : decode cX12_sized 87 = .ok (.iaload, 1) := by decide +kernel
theorem dX12_sized_88 : decode cX12_sized 88 = .ok (.iload_n 2, 1) := by decide +kernel
theorem dX12_sized_89 : decode cX12_sized 89 = .ok (.iconst 2, 1) := by decide +kernel
theorem dX12_sized_90 : decode cX12_sized 90 = .ok (.invokestatic 184, 3) := by decide +kernel
theorem dX12_sized_93 : decode cX12_sized 93 = .ok (.ifCond .eq 12, 3) := by decide +kernel
theorem dX12_sized_96 : decode cX12_sized 96 = .ok (.aload_n 0, 1) := by decide +kernel
theorem dX12_sized_97 : decode cX12_sized 97 = .ok (.iload_n 1, 1) := by decide +kernel
theorem dX12_sized_98 : decode cX12_sized 98 = .ok (.iconst 0, 1) := by decide +kernel
theorem dX12_sized_99 : decode cX12_sized 99 = .ok (.invokevirtual 109, 3) := by decide +kernel
theorem dX12_sized_102 : decode cX12_sized 102 = .ok (.goto 4, 3) := by decide +kernel
theorem dX12_sized_105 : decode cX12_sized 105 = .ok (.iconst 0, 1) := by decide +kernel
theorem dX12_sized_106 : decode cX12_sized 106 = .ok (.iadd, 1) := by decide +kernel
theorem dX12_sized_107 : decode cX12_sized 107 = .ok (.istore_n 3, 1) := by decide +kernel
theorem dX12_sized_108 : decode cX12_sized 108 = .ok (.iload_n 2, 1) := by decide +kernel
theorem dX12_sized_109 : decode cX12_sized 109 = .ok (.iconst 3, 1) := by decide +kernel
theorem dX12_sized_110 : decode cX12_sized 110 = .ok (.invokestatic 184, 3) := by decide +kernel
theorem dX12_sized_113 : decode cX12_sized 113 = .ok (.ifCond .eq 9, 3) := by decide +kernel
theorem dX12_sized_116 : decode cX12_sized 116 = .ok (.iconst 2, 1) := by decide +kernel
theorem dX12_sized_117 : decode cX12_sized 117 = .ok (.iload_n 3, 1) := by decide +kernel
theorem dX12_sized_118 : decode cX12_sized 118 = .ok (.imul, 1) := by decide +kernel
theorem dX12_sized_119 : decode cX12_sized 119 = .ok (.goto 4, 3) := by decide +kernel
theorem dX12_sized_122 : decode cX12_sized 122 = .ok (.iload_n 3, 1) := by decide +kernel
theorem dX12_sized_123 : decode cX12_sized 123 = .ok (.istore_n 3, 1) := by decide +kernel
theorem dX12_sized_124 : decode cX12_sized 124 = .ok (.iload_n 2, 1) := by decide +kernel
theorem dX12_sized_125 : decode cX12_sized 125 = .ok (.iconst 4, 1) := by decide +kernel
theorem dX12_sized_126 : decode cX12_sized 126 = .ok (.if_icmp .ne 13, 3) := by decide +kernel
theorem dX12_sized_129 : decode cX12_sized 129 = .ok (.iload_n 3, 1) := by decide +kernel
theorem dX12_sized_130 : decode cX12_sized 130 = .ok (.aload_n 0, 1) := by decide +kernel
theorem dX12_sized_131 : decode cX12_sized 131 = .ok (.iload_n 1, 1) := by decide +kernel
theorem dX12_sized_132 : decode cX12_sized 132 = .ok (.invokevirtual 194, 3) := by decide +kernel
theorem dX12_sized_135 : decode cX12_sized 135 = .ok (.iadd, 1) := by decide +kernel
theorem dX12_sized_136 : decode cX12_sized 136 = .ok (.goto 4, 3) := by decide +kernel
theorem dX12_sized_139 : decode cX12_sized 139 = .ok (.iload_n 3, 1) := by decide +kernel
theorem dX12_sized_140 : decode cX12_sized 140 = .ok (.ireturn, 1) := by decide +kernel
theorem dX12_ask_0 : decode cX12_ask 0 = .ok (.aload_n 0, 1) := by decide +kernel
theorem dX12_ask_1 : decode cX12_ask 1 = .ok (.iconst 0, 1) := by decide +kernel
theorem dX12_ask_2 : decode cX12_ask 2 = .ok (.putfield 78, 3) := by decide +kernel
theorem dX12_ask_5 : decode cX12_ask 5 = .ok (.iload_n 1, 1) := by decide +kernel
theorem dX12_ask_6 : decode cX12_ask 6 = .ok (.invokestatic 120, 3) := by decide +kernel
theorem dX12_ask_9 : decode cX12_ask 9 = .ok (.ifCond .eq 13, 3) := by decide +kernel
theorem dX12_ask_12 : decode cX12_ask 12 = .ok (.iload_n 2, 1) := by decide +kernel
theorem dX12_ask_13 : decode cX12_ask 13 = .ok (.i2l, 1) := by decide +kernel
theorem dX12_ask_14 : decode cX12_ask 14 = .ok (.lconst 0, 1) := by decide +kernel
theorem dX12_ask_15 : decode cX12_ask 15 = .ok (.lconst 1, 1) := by decide +kernel
theorem dX12_ask_16 : decode cX12_ask 16 = .ok (.invokestatic 88, 3) := by decide +kernel
theorem dX12_ask_19 : decode cX12_ask 19 = .ok (.ifCond .ne 6, 3) := by decide +kernel
theorem dX12_ask_22 : decode cX12_ask 22 = .ok (.ldc 98, 2) := by decide +kernel
theorem dX12_ask_24 : decode cX12_ask 24 = .ok (.ireturn, 1) := by decide +kernel
theorem dX12_ask_25 : decode cX12_ask 25 = .ok (.aload_n 0, 1) := by decide +kernel
theorem dX12_ask_26 : decode cX12_ask 26 = .ok (.iconst 0, 1) := by decide +kernel
theorem dX12_ask_27 : decode cX12_ask 27 = .ok (.putfield 187, 3) := by decide +kernel
theorem dX12_ask_30 : decode cX12_ask 30 = .ok (.aload_n 0, 1) := by decide +kernel
theorem dX12_ask_31 : decode cX12_ask 31 = .ok (.iload_n 1, 1) := by decide +kernel
theorem dX12_ask_32 : decode cX12_ask 32 = .ok (.iconst 0, 1) := by decide +kernel
theorem dX12_ask_33 : decode cX12_ask 33 = .ok (.invokevirtual 137, 3) := by decide +kernel
theorem dX12_ask_36 : decode cX12_ask 36 = .ok (.istore_n 3, 1) := by decide +kernel
theorem dX12_ask_37 : decode cX12_ask 37 = .ok (.iload_n 3, 1) := by decide +kernel
theorem dX12_ask_38 : decode cX12_ask 38 = .ok (.ifCond .ge 7, 3) := by decide +kernel
theorem dX12_ask_41 : decode cX12_ask 41 = .ok (.iload_n 3, 1) := by decide +kernel
theorem dX12_ask_42 : decode cX12_ask 42 = .ok (.goto 20, 3) := by decide +kernel
theorem dX12_ask_45 : decode cX12_ask 45 = .ok (.iload_n 2, 1) := by decide +kernel
theorem dX12_ask_46 : decode cX12_ask 46 = .ok (.ifCond .ne 11, 3) := by decide +kernel
theorem dX12_ask_49 : decode cX12_ask 49 = .ok (.aload_n 0, 1) := by decide +kernel
theorem dX12_ask_50 : decode cX12_ask 50 = .ok (.iload_n 1, 1) := by decide +kernel
theorem dX12_ask_51 : decode cX12_ask 51 = .ok (.invokevirtual 197, 3) := by decide +kernel
theorem dX12_ask_54 : decode cX12_ask 54 = .ok (.goto 8, 3) := by decide +kernel
theorem dX12_ask_57 : decode cX12_ask 57 = .ok (.aload_n 0, 1) := by decide +kernel
theorem dX12_ask_58 : decode cX12_ask 58 = .ok (.iload_n 1, 1) := by decide +kernel
theorem dX12_ask_59 : decode cX12_ask 59 = .ok (.invokevirtual 194, 3) := by decide +kernel
theorem dX12_ask_62 : decode cX12_ask 62 = .ok (.ireturn, 1) := by decide +kernel
theorem dX12_trace_0 : decode cX12_trace 0 = .ok (.aload_n 0, 1) := by decide +kernel
theorem dX12_trace_1 : decode cX12_trace 1 = .ok (.iconst 0, 1) := by decide +kernel
theorem dX12_trace_2 : decode cX12_trace 2 = .ok (.putfield 78, 3) := by decide +kernel
theorem dX12_trace_5 : decode cX12_trace 5 = .ok (.iload_n 1, 1) := by decide +kernel
theorem dX12_trace_6 : decode cX12_trace 6 = .ok (.i2l, 1) := by decide +kernel
theorem dX12_trace_7 : decode cX12_trace 7 = .ok (.lconst 0, 1) := by decide +kernel
theorem dX12_trace_8 : decode cX12_trace 8 = .ok (.aload_n 0, 1) := by decide +kernel
theorem dX12_trace_9 : decode cX12_trace 9 = .ok (.getfield 187, 3) := by decide +kernel
theorem dX12_trace_12 : decode cX12_trace 12 = .ok (.iconst 1, 1) := by decide +kernel
theorem dX12_trace_13 : decode cX12_trace 13 = .ok (.isub, 1) := by decide +kernel
theorem dX12_trace_14 : decode cX12_trace 14 = .ok (.i2l, 1) := by decide +kernel
theorem dX12_trace_15 : decode cX12_trace 15 = .ok (.invokestatic 88, 3) := by decide +kernel
theorem dX12_trace_18 : decode cX12_trace 18 = .ok (.ifCond .eq 12, 3) := by decide +kernel
theorem dX12_trace_21 : decode cX12_trace 21 = .ok (.aload_n 0, 1) := by decide +kernel
theorem dX12_trace_22 : decode cX12_trace 22 = .ok (.getfield 62, 3) := by decide +kernel
theorem dX12_trace_25 : decode cX12_trace 25 = .ok (.iload_n 1, 1) := by decide +kernel
theorem dX12_trace_26 : decode cX12_trace 26 = .ok (.iaload, 1) := by decide +kernel
theorem dX12_trace_27 : decode cX12_trace 27 = .ok (.goto 5, 3) := by decide +kernel
theorem dX12_trace_30 : decode cX12_trace 30 = .ok (.ldc 176, 2) := by decide +kernel
theorem dX12_trace_32 : decode cX12_trace 32 = .ok (.ireturn, 1) := by decide +kernel
theorem dX12_findShapes_0 : decode cX12_findShapes 0 = .ok (.iconst 0, 1) := by decide +kernel
theorem dX12_findShapes_1 : decode cX12_findShapes 1 = .ok (.istore_n 2, 1) := by decide +kernel
theorem dX12_findShapes_2 : decode cX12_findShapes 2 = .ok (.iload_n 2, 1) := by decide +kernel
theorem dX12_findShapes_3 : decode cX12_findShapes 3 = .ok (.bipush 10, 2) := by decide +kernel
theorem dX12_findShapes_5 : decode cX12_findShapes 5 = .ok (.if_icmp .ge 24, 3) := by decide +kernel
theorem dX12_findShapes_8 : decode cX12_findShapes 8 = .ok (.aload_n 0, 1) := by decide +kernel
theorem dX12_findShapes_9 : decode cX12_findShapes 9 = .ok (.getfield 65, 3) := by decide +kernel
theorem dX12_findShapes_12 : decode cX12_findShapes 12 = .ok (.iload_n 2, 1) := by decide +kernel
theorem dX12_findShapes_13 : decode cX12_findShapes 13 = .ok (.iload_n 2, 1) := by decide +kernel
theorem dX12_findShapes_14 : decode cX12_findShapes 14 = .ok (.ifCond .ne 7, 3) := by decide +kernel
theorem dX12_findShapes_17 : decode cX12_findShapes 17 = .ok (.iload_n 1, 1) := by decide +kernel
theorem dX12_findShapes_18 : decode cX12_findShapes 18 = .ok (.goto 4, 3) := by decide +kernel
theorem dX12_findShapes_21 : decode cX12_findShapes 21 = .ok (.iconst 0, 1) := by decide +kernel
theorem dX12_findShapes_22 : decode cX12_findShapes 22 = .ok (.iastore, 1) := by decide +kernel
theorem dX12_findShapes_23 : decode cX12_findShapes 23 = .ok (.iinc 2 1, 3) := by decide +kernel
theorem dX12_findShapes_26 : decode cX12_findShapes 26 = .ok (.goto (-24), 3) := by decide +kernel
theorem dX12_findShapes_29 : decode cX12_findShapes 29 = .ok (.aload_n 0, 1) := by decide +kernel
theorem dX12_findShapes_30 : decode cX12_findShapes 30 = .ok (.iconst 1, 1) := by decide +kernel
theorem dX12_findShapes_31 : decode cX12_findShapes 31 = .ok (.putfield 200, 3) := by decide +kernel
theorem dX12_findShapes_34 : decode cX12_findShapes 34 = .ok (.iconst 1, 1) := by decide +kernel
theorem dX12_findShapes_35 : decode cX12_findShapes 35 = .ok (.istore_n 2, 1) := by decide +kernel
theorem dX12_findShapes_36 : decode cX12_findShapes 36 = .ok (.iload_n 2, 1) := by decide +kernel
theorem dX12_findShapes_37 : decode cX12_findShapes 37 = .ok (.ifCond .eq 213, 3) := by decide +kernel
theorem dX12_findShapes_40 : decode cX12_findShapes 40 = .ok (.bipush 10, 2) := by decide +kernel
theorem dX12_findShapes_42 : decode cX12_findShapes 42 = .ok (.aload_n 0, 1) := by decide +kernel
theorem dX12_findShapes_43 : decode cX12_findShapes 43 = .ok (.getfield 200, 3) := by decide +kernel
theorem dX12_findShapes_46 : decode cX12_findShapes 46 = .ok (.iconst 1, 1) := by decide +kernel
theorem dX12_findShapes_47 : decode cX12_findShapes 47 = .ok (.isub, 1) := by decide +kernel
theorem dX12_findShapes_48 : decode cX12_findShapes 48 = .ok (.imul, 1) := by decide +kernel
theorem dX12_findShapes_49 : decode cX12_findShapes 49 = .ok (.istore_n 3, 1) := by decide +kernel
theorem dX12_findShapes_50 : decode cX12_findShapes 50 = .ok (.bipush 9, 2) := by decide +kernel
theorem dX12_findShapes_52 : decode cX12_findShapes 52 = .ok (.istore 4, 2) := by decide +kernel
theorem dX12_findShapes_54 : decode cX12_findShapes 54 = .ok (.iconst 1, 1) := by decide +kernel
theorem dX12_findShapes_55 : decode cX12_findShapes 55 = .ok (.istore 5, 2) := by decide +kernel
theorem dX12_findShapes_57 : decode cX12_findShapes 57 = .ok (.iload 4, 2) := by decide +kernel
theorem dX12_findShapes_59 : decode cX12_findShapes 59 = .ok (.ifCond .lt 36, 3) := by decide +kernel
theorem dX12_findShapes_62 : decode cX12_findShapes 62 = .ok (.aload_n 0, 1) := by decide +kernel
theorem dX12_findShapes_63 : decode cX12_findShapes 63 = .ok (.getfield 65, 3) := by decide +kernel
theorem dX12_findShapes_66 : decode cX12_findShapes 66 = .ok (.iload_n 3, 1) := by decide +kernel
theorem dX12_findShapes_67 : decode cX12_findShapes 67 = .ok (.iload 4, 2) := by decide +kernel
theorem dX12_findShapes_69 : decode cX12_findShapes 69 = .ok (.iadd, 1) := by decide +kernel
theorem dX12_findShapes_70 : decode cX12_findShapes 70 = .ok (.iaload, 1) := by decide +kernel
theorem dX12_findShapes_71 : decode cX12_findShapes 71 = .ok (.iconst 2, 1) := by decide +kernel
theorem dX12_findShapes_72 : decode cX12_findShapes 72 = .ok (.if_icmp .ge 23, 3) := by decide +kernel
theorem dX12_findShapes_75 : decode cX12_findShapes 75 = .ok (.iload 5, 2) := by decide +kernel
theorem dX12_findShapes_77 : decode cX12_findShapes 77 = .ok (.aload_n 0, 1) := by decide +kernel
theorem dX12_findShapes_78 : decode cX12_findShapes 78 = .ok (.getfield 65, 3) := by decide +kernel
theorem dX12_findShapes_81 : decode cX12_findShapes 81 = .ok (.iload_n 3, 1) := by decide +kernel
theorem dX12_findShapes_82 : decode cX12_findShapes 82 = .ok (.iload 4, 2) := by decide +kernel
theorem dX12_findShapes_84 : decode cX12_findShapes 84 = .ok (.iadd, 1) := by decide +kernel
theorem dX12_findShapes_85 : decode cX12_findShapes 85 = .ok (.iaload, 1) := by decide +kernel
theorem dX12_findShapes_86 : decode cX12_findShapes 86 = .ok (.iadd, 1) := by decide +kernel
theorem dX12_findShapes_87 : decode cX12_findShapes 87 = .ok (.istore 5, 2) := by decide +kernel
theorem dX12_findShapes_89 : decode cX12_findShapes 89 = .ok (.iinc 4 (-1), 3) := by decide +kernel
theorem dX12_findShapes_92 : decode cX12_findShapes 92 = .ok (.goto (-35), 3) := by decide +kernel
theorem dX12_findShapes_95 : decode cX12_findShapes 95 = .ok (.iload 4, 2) := by decide +kernel
theorem dX12_findShapes_97 : decode cX12_findShapes 97 = .ok (.ifCond .lt 7, 3) := by decide +kernel
theorem dX12_findShapes_100 : decode cX12_findShapes 100 = .ok (.iconst 1, 1) := by decide +kernel
theorem dX12_findShapes_101 : decode cX12_findShapes 101 = .ok (.goto 4, 3) := by decide +kernel
theorem dX12_findShapes_104 : decode cX12_findShapes 104 = .ok (.iconst 0, 1) := by decide +kernel
theorem dX12_findShapes_105 : decode cX12_findShapes 105 = .ok (.istore_n 2, 1) := by decide +kernel
theorem dX12_findShapes_106 : decode cX12_findShapes 106 = .ok (.iload_n 2, 1) := by decide +kernel
theorem dX12_findShapes_107 : decode cX12_findShapes 107 = .ok (.ifCond .eq 140, 3) := by decide +kernel
theorem dX12_findShapes_110 : decode cX12_findShapes 110 = .ok (.aload_n 0, 1) := by decide +kernel
theorem dX12_findShapes_111 : decode cX12_findShapes 111 = .ok (.getfield 65, 3) := by decide +kernel
theorem dX12_findShapes_114 : decode cX12_findShapes 114 = .ok (.iload_n 3, 1) := by decide +kernel
theorem dX12_findShapes_115 : decode cX12_findShapes 115 = .ok (.iload 4, 2) := by decide +kernel
theorem dX12_findShapes_117 : decode cX12_findShapes 117 = .ok (.iadd, 1) := by decide +kernel
theorem dX12_findShapes_118 : decode cX12_findShapes 118 = .ok (.iaload, 1) := by decide +kernel
theorem dX12_findShapes_119 : decode cX12_findShapes 119 = .ok (.iconst 1, 1) := by decide +kernel
theorem dX12_findShapes_120 : decode cX12_findShapes 120 = .ok (.isub, 1) := by decide +kernel
theorem dX12_findShapes_121 : decode cX12_findShapes 121 = .ok (.istore 6, 2) := by decide +kernel
theorem dX12_findShapes_123 : decode cX12_findShapes 123 = .ok (.iconst 0, 1) := by decide +kernel
theorem dX12_findShapes_124 : decode cX12_findShapes 124 = .ok (.istore 7, 2) := by decide +kernel
theorem dX12_findShapes_126 : decode cX12_findShapes 126 = .ok (.iload 7, 2) := by decide +kernel
theorem dX12_findShapes_128 : decode cX12_findShapes 128 = .ok (.bipush 10, 2) := by decide +kernel
theorem dX12_findShapes_130 : decode cX12_findShapes 130 = .ok (.if_icmp .ge 107, 3) := by decide +kernel
theorem dX12_findShapes_133 : decode cX12_findShapes 133 = .ok (.iload 7, 2) := by decide +kernel
theorem dX12_findShapes_135 : decode cX12_findShapes 135 = .ok (.iload 4, 2) := by decide +kernel
theorem dX12_findShapes_137 : decode cX12_findShapes 137 = .ok (.if_icmp .ge 27, 3) := by decide +kernel
theorem dX12_findShapes_140 : decode cX12_findShapes 140 = .ok (.aload_n 0, 1) := by decide +kernel
theorem dX12_findShapes_141 : decode cX12_findShapes 141 = .ok (.getfield 65, 3) := by decide +kernel
theorem dX12_findShapes_144 : decode cX12_findShapes 144 = .ok (.iload_n 3, 1) := by decide +kernel
theorem dX12_findShapes_145 : decode cX12_findShapes 145 = .ok (.bipush 10, 2) := by decide +kernel
theorem dX12_findShapes_147 : decode cX12_findShapes 147 = .ok (.iadd, 1) := by decide +kernel
theorem dX12_findShapes_148 : decode cX12_findShapes 148 = .ok (.iload 7, 2) := by decide +kernel
theorem dX12_findShapes_150 : decode cX12_findShapes 150 = .ok (.iadd, 1) := by decide +kernel
theorem dX12_findShapes_151 : decode cX12_findShapes 151 = .ok (.aload_n 0, 1) := by decide +kernel
theorem dX12_findShapes_152 : decode cX12_findShapes 152 = .ok (.getfield 65, 3) := by decide +kernel
theorem dX12_findShapes_155 : decode cX12_findShapes 155 = .ok (.iload_n 3, 1) := by decide +kernel
theorem dX12_findShapes_156 : decode cX12_findShapes 156 = .ok (.iload 7, 2) := by decide +kernel
theorem dX12_findShapes_158 : decode cX12_findShapes 158 = .ok (.iadd, 1) := by decide +kernel
theorem dX12_findShapes_159 : decode cX12_findShapes 159 = .ok (.iaload, 1) := by decide +kernel
theorem dX12_findShapes_160 : decode cX12_findShapes 160 = .ok (.iastore, 1) := by decide +kernel
theorem dX12_findShapes_161 : decode cX12_findShapes 161 = .ok (.goto 70, 3) := by decide +kernel
theorem dX12_findShapes_164 : decode cX12_findShapes 164 = .ok (.iload 7, 2) := by decide +kernel
theorem dX12_findShapes_166 : decode cX12_findShapes 166 = .ok (.iload 4, 2) := by decide +kernel
theorem dX12_findShapes_168 : decode cX12_findShapes 168 = .ok (.if_icmp .ne 20, 3) := by decide +kernel
theorem dX12_findShapes_171 : decode cX12_findShapes 171 = .ok (.aload_n 0, 1) := by decide +kernel
theorem dX12_findShapes_172 : decode cX12_findShapes 172 = .ok (.getfield 65, 3) := by decide +kernel
theorem dX12_findShapes_175 : decode cX12_findShapes 175 = .ok (.iload_n 3, 1) := by decide +kernel
theorem dX12_findShapes_176 : decode cX12_findShapes 176 = .ok (.bipush 10, 2) := by decide +kernel
theorem dX12_findShapes_178 : decode cX12_findShapes 178 = .ok (.iadd, 1) := by decide +kernel
theorem dX12_findShapes_179 : decode cX12_findShapes 179 = .ok (.iload 7, 2) := by decide +kernel
theorem dX12_findShapes_181 : decode cX12_findShapes 181 = .ok (.iadd, 1) := by decide +kernel
theorem dX12_findShapes_182 : decode cX12_findShapes 182 = .ok (.iload 6, 2) := by decide +kernel
theorem dX12_findShapes_184 : decode cX12_findShapes 184 = .ok (.iastore, 1) := by decide +kernel
theorem dX12_findShapes_185 : decode cX12_findShapes 185 = .ok (.goto 46, 3) := by decide +kernel
theorem dX12_findShapes_188 : decode cX12_findShapes 188 = .ok (.aload_n 0, 1) := by decide +kernel
theorem dX12_findShapes_189 : decode cX12_findShapes 189 = .ok (.getfield 65, 3) := by decide +kernel
theorem dX12_findShapes_192 : decode cX12_findShapes 192 = .ok (.iload_n 3, 1) := by decide +kernel
theorem dX12_findShapes_193 : decode cX12_findShapes 193 = .ok (.bipush 10, 2) := by decide +kernel
theorem dX12_findShapes_195 : decode cX12_findShapes 195 = .ok (.iadd, 1) := by decide +kernel
theorem dX12_findShapes_196 : decode cX12_findShapes 196 = .ok (.iload 7, 2) := by decide +kernel
theorem dX12_findShapes_198 : decode cX12_findShapes 198 = .ok (.iadd, 1) := by decide +kernel
theorem dX12_findShapes_199 : decode cX12_findShapes 199 = .ok (.iload 5, 2) := by decide +kernel
theorem dX12_findShapes_201 : decode cX12_findShapes 201 = .ok (.iload 6, 2) := by decide +kernel
theorem dX12_findShapes_203 : decode cX12_findShapes 203 = .ok (.if_icmp .ge 8, 3) := by decide +kernel
theorem dX12_findShapes_206 : decode cX12_findShapes 206 = .ok (.iload 5, 2) := by decide +kernel
theorem dX12_findShapes_208 : decode cX12_findShapes 208 = .ok (.goto 5, 3) := by decide +kernel
theorem dX12_findShapes_211 : decode cX12_findShapes 211 = .ok (.iload 6, 2) := by decide +kernel
theorem dX12_findShapes_213 : decode cX12_findShapes 213 = .ok (.iastore, 1) := by decide +kernel
theorem dX12_findShapes_214 : decode cX12_findShapes 214 = .ok (.iload 5, 2) := by decide +kernel
theorem dX12_findShapes_216 : decode cX12_findShapes 216 = .ok (.aload_n 0, 1) := by decide +kernel
theorem dX12_findShapes_217 : decode cX12_findShapes 217 = .ok (.getfield 65, 3) := by decide +kernel
theorem dX12_findShapes_220 : decode cX12_findShapes 220 = .ok (.iload_n 3, 1) := by decide +kernel
theorem dX12_findShapes_221 : decode cX12_findShapes 221 = .ok (.bipush 10, 2) := by decide +kernel
theorem dX12_findShapes_223 : decode cX12_findShapes 223 = .ok (.iadd, 1) := by decide +kernel
theorem dX12_findShapes_224 : decode cX12_findShapes 224 = .ok (.iload 7, 2) := by decide +kernel
theorem dX12_findShapes_226 : decode cX12_findShapes 226 = .ok (.iadd, 1) := by decide +kernel
theorem dX12_findShapes_227 : decode cX12_findShapes 227 = .ok (.iaload, 1) := by decide +kernel
theorem dX12_findShapes_228 : decode cX12_findShapes 228 = .ok (.isub, 1) := by decide +kernel
theorem dX12_findShapes_229 : decode cX12_findShapes 229 = .ok (.istore 5, 2) := by decide +kernel
theorem dX12_findShapes_231 : decode cX12_findShapes 231 = .ok (.iinc 7 1, 3) := by decide +kernel
theorem dX12_findShapes_234 : decode cX12_findShapes 234 = .ok (.goto (-108), 3) := by decide +kernel
theorem dX12_findShapes_237 : decode cX12_findShapes 237 = .ok (.aload_n 0, 1) := by decide +kernel
theorem dX12_findShapes_238 : decode cX12_findShapes 238 = .ok (.dup, 1) := by decide +kernel
theorem dX12_findShapes_239 : decode cX12_findShapes 239 = .ok (.getfield 200, 3) := by decide +kernel
theorem dX12_findShapes_242 : decode cX12_findShapes 242 = .ok (.iconst 1, 1) := by decide +kernel
theorem dX12_findShapes_243 : decode cX12_findShapes 243 = .ok (.iadd, 1) := by decide +kernel
theorem dX12_findShapes_244 : decode cX12_findShapes 244 = .ok (.putfield 200, 3) := by decide +kernel
theorem dX12_findShapes_247 : decode cX12_findShapes 247 = .ok (.goto (-211), 3) := by decide +kernel
theorem dX12_findShapes_250 : decode cX12_findShapes 250 = .ok (.return_, 1) := by decide +kernel
theorem dX12_changed_0 : decode cX12_changed 0 = .ok (.iconst 0, 1) := by decide +kernel
theorem dX12_changed_1 : decode cX12_changed 1 = .ok (.istore 6, 2) := by decide +kernel
theorem dX12_changed_3 : decode cX12_changed 3 = .ok (.iconst 0, 1) := by decide +kernel
theorem dX12_changed_4 : decode cX12_changed 4 = .ok (.istore 7, 2) := by decide +kernel
theorem dX12_changed_6 : decode cX12_changed 6 = .ok (.iload_n 3, 1) := by decide +kernel
theorem dX12_changed_7 : decode cX12_changed 7 = .ok (.ifCond .ne 7, 3) := by decide +kernel
theorem dX12_changed_10 : decode cX12_changed 10 = .ok (.iconst 1, 1) := by decide +kernel
theorem dX12_changed_11 : decode cX12_changed 11 = .ok (.goto 4, 3) := by decide +kernel
theorem dX12_changed_14 : decode cX12_changed 14 = .ok (.iconst 0, 1) := by decide +kernel
theorem dX12_changed_15 : decode cX12_changed 15 = .ok (.istore 8, 2) := by decide +kernel
theorem dX12_changed_17 : decode cX12_changed 17 = .ok (.iconst 0, 1) := by decide +kernel
theorem dX12_changed_18 : decode cX12_changed 18 = .ok (.istore 9, 2) := by decide +kernel
theorem dX12_changed_20 : decode cX12_changed 20 = .ok (.iload 9, 2) := by decide +kernel
theorem dX12_changed_22 : decode cX12_changed 22 = .ok (.bipush 10, 2) := by decide +kernel
theorem dX12_changed_24 : decode cX12_changed 24 = .ok (.if_icmp .ge 74, 3) := by decide +kernel
theorem dX12_changed_27 : decode cX12_changed 27 = .ok (.aload_n 0, 1) := by decide +kernel
theorem dX12_changed_28 : decode cX12_changed 28 = .ok (.getfield 65, 3) := by decide +kernel
theorem dX12_changed_31 : decode cX12_changed 31 = .ok (.bipush 10, 2) := by decide +kernel
theorem dX12_changed_33 : decode cX12_changed 33 = .ok (.iload_n 1, 1) := by decide +kernel
theorem dX12_changed_34 : decode cX12_changed 34 = .ok (.imul, 1) := by decide +kernel
theorem dX12_changed_35 : decode cX12_changed 35 = .ok (.iload 9, 2) := by decide +kernel
theorem dX12_changed_37 : decode cX12_changed 37 = .ok (.iadd, 1) := by decide +kernel
theorem dX12_changed_38 : decode cX12_changed 38 = .ok (.iaload, 1) := by decide +kernel
theorem dX12_changed_39 : decode cX12_changed 39 = .ok (.istore 10, 2) := by decide +kernel
theorem dX12_changed_41 : decode cX12_changed 41 = .ok (.iload 10, 2) := by decide +kernel
theorem dX12_changed_43 : decode cX12_changed 43 = .ok (.ifCond .le 49, 3) := by decide +kernel
theorem dX12_changed_46 : decode cX12_changed 46 = .ok (.iload 10, 2) := by decide +kernel
theorem dX12_changed_48 : decode cX12_changed 48 = .ok (.iload_n 2, 1) := by decide +kernel
theorem dX12_changed_49 : decode cX12_changed 49 = .ok (.if_icmp .ne 14, 3) := by decide +kernel
theorem dX12_changed_52 : decode cX12_changed 52 = .ok (.iload 7, 2) := by decide +kernel
theorem dX12_changed_54 : decode cX12_changed 54 = .ok (.ifCond .ne 9, 3) := by decide +kernel
theorem dX12_changed_57 : decode cX12_changed 57 = .ok (.iconst 1, 1) := by decide +kernel
theorem dX12_changed_58 : decode cX12_changed 58 = .ok (.istore 7, 2) := by decide +kernel
theorem dX12_changed_60 : decode cX12_changed 60 = .ok (.goto 32, 3) := by decide +kernel
theorem dX12_changed_63 : decode cX12_changed 63 = .ok (.iload 10, 2) := by decide +kernel
theorem dX12_changed_65 : decode cX12_changed 65 = .ok (.iload_n 3, 1) := by decide +kernel
theorem dX12_changed_66 : decode cX12_changed 66 = .ok (.if_icmp .ne 14, 3) := by decide +kernel
theorem dX12_changed_69 : decode cX12_changed 69 = .ok (.iload 8, 2) := by decide +kernel
theorem dX12_changed_71 : decode cX12_changed 71 = .ok (.ifCond .ne 9, 3) := by decide +kernel
theorem dX12_changed_74 : decode cX12_changed 74 = .ok (.iconst 1, 1) := by decide +kernel
theorem dX12_changed_75 : decode cX12_changed 75 = .ok (.istore 8, 2) := by decide +kernel
theorem dX12_changed_77 : decode cX12_changed 77 = .ok (.goto 15, 3) := by decide +kernel
theorem dX12_changed_80 : decode cX12_changed 80 = .ok (.aload_n 0, 1) := by decide +kernel
theorem dX12_changed_81 : decode cX12_changed 81 = .ok (.getfield 68, 3) := by decide +kernel
theorem dX12_changed_84 : decode cX12_changed 84 = .ok (.iload 6, 2) := by decide +kernel
theorem dX12_changed_86 : decode cX12_changed 86 = .ok (.iload 10, 2) := by decide +kernel
theorem dX12_changed_88 : decode cX12_changed 88 = .ok (.iastore, 1) := by decide +kernel
theorem dX12_changed_89 : decode cX12_changed 89 = .ok (.iinc 6 1, 3) := by decide +kernel
theorem dX12_changed_92 : decode cX12_changed 92 = .ok (.iinc 9 1, 3) := by decide +kernel
theorem dX12_changed_95 : decode cX12_changed 95 = .ok (.goto (-75), 3) := by decide +kernel
theorem dX12_changed_98 : decode cX12_changed 98 = .ok (.aload_n 0, 1) := by decide +kernel
theorem dX12_changed_99 : decode cX12_changed 99 = .ok (.getfield 68, 3) := by decide +kernel
theorem dX12_changed_102 : decode cX12_changed 102 = .ok (.iload 6, 2) := by decide +kernel
theorem dX12_changed_104 : decode cX12_changed 104 = .ok (.iload 4, 2) := by decide +kernel
theorem dX12_changed_106 : decode cX12_changed 106 = .ok (.iastore, 1) := by decide +kernel
theorem dX12_changed_107 : decode cX12_changed 107 = .ok (.iinc 6 1, 3) := by decide +kernel
theorem dX12_changed_110 : decode cX12_changed 110 = .ok (.iload 5, 2) := by decide +kernel
theorem dX12_changed_112 : decode cX12_changed 112 = .ok (.ifCond .le 15, 3) := by decide +kernel
theorem dX12_changed_115 : decode cX12_changed 115 = .ok (.aload_n 0, 1) := by decide +kernel
theorem dX12_changed_116 : decode cX12_changed 116 = .ok (.getfield 68, 3) := by decide +kernel
theorem dX12_changed_119 : decode cX12_changed 119 = .ok (.iload 6, 2) := by decide +kernel
theorem dX12_changed_121 : decode cX12_changed 121 = .ok (.iload 5, 2) := by decide +kernel
theorem dX12_changed_123 : decode cX12_changed 123 = .ok (.iastore, 1) := by decide +kernel
theorem dX12_changed_124 : decode cX12_changed 124 = .ok (.iinc 6 1, 3) := by decide +kernel
theorem dX12_changed_127 : decode cX12_changed 127 = .ok (.iconst 0, 1) := by decide +kernel
theorem dX12_changed_128 : decode cX12_changed 128 = .ok (.istore 9, 2) := by decide +kernel
theorem dX12_changed_130 : decode cX12_changed 130 = .ok (.iload 9, 2) := by decide +kernel
theorem dX12_changed_132 : decode cX12_changed 132 = .ok (.iload 6, 2) := by decide +kernel
theorem dX12_changed_134 : decode cX12_changed 134 = .ok (.if_icmp .ge 80, 3) := by decide +kernel
theorem dX12_changed_137 : decode cX12_changed 137 = .ok (.iconst 1, 1) := by decide +kernel
theorem dX12_changed_138 : decode cX12_changed 138 = .ok (.istore 10, 2) := by decide +kernel
theorem dX12_changed_140 : decode cX12_changed 140 = .ok (.iload 10, 2) := by decide +kernel
theorem dX12_changed_142 : decode cX12_changed 142 = .ok (.iload 6, 2) := by decide +kernel
theorem dX12_changed_144 : decode cX12_changed 144 = .ok (.if_icmp .ge 64, 3) := by decide +kernel
theorem dX12_changed_147 : decode cX12_changed 147 = .ok (.aload_n 0, 1) := by decide +kernel
theorem dX12_changed_148 : decode cX12_changed 148 = .ok (.getfield 68, 3) := by decide +kernel
theorem dX12_changed_151 : decode cX12_changed 151 = .ok (.iload 10, 2) := by decide +kernel
theorem dX12_changed_153 : decode cX12_changed 153 = .ok (.iconst 1, 1) := by decide +kernel
theorem dX12_changed_154 : decode cX12_changed 154 = .ok (.isub, 1) := by decide +kernel
theorem dX12_changed_155 : decode cX12_changed 155 = .ok (.iaload, 1) := by decide +kernel
theorem dX12_changed_156 : decode cX12_changed 156 = .ok (.aload_n 0, 1) := by decide +kernel
theorem dX12_changed_157 : decode cX12_changed 157 = .ok (.getfield 68, 3) := by decide +kernel
theorem dX12_changed_160 : decode cX12_changed 160 = .ok (.iload 10, 2) := by decide +kernel
theorem dX12_changed_162 : decode cX12_changed 162 = .ok (.iaload, 1) := by decide +kernel
theorem dX12_changed_163 : decode cX12_changed 163 = .ok (.if_icmp .ge 39, 3) := by decide +kernel
theorem dX12_changed_166 : decode cX12_changed 166 = .ok (.aload_n 0, 1) := by decide +kernel
theorem dX12_changed_167 : decode cX12_changed 167 = .ok (.getfield 68, 3) := by decide +kernel
theorem dX12_changed_170 : decode cX12_changed 170 = .ok (.iload 10, 2) := by decide +kernel
theorem dX12_changed_172 : decode cX12_changed 172 = .ok (.iaload, 1) := by decide +kernel
theorem dX12_changed_173 : decode cX12_changed 173 = .ok (.istore 11, 2) := by decide +kernel
theorem dX12_changed_175 : decode cX12_changed 175 = .ok (.aload_n 0, 1) := by decide +kernel
theorem dX12_changed_176 : decode cX12_changed 176 = .ok (.getfield 68, 3) := by decide +kernel
theorem dX12_changed_179 : decode cX12_changed 179 = .ok (.iload 10, 2) := by decide +kernel
theorem dX12_changed_181 : decode cX12_changed 181 = .ok (.aload_n 0, 1) := by decide +kernel
theorem dX12_changed_182 : decode cX12_changed 182 = .ok (.getfield 68, 3) := by decide +kernel
theorem dX12_changed_185 : decode cX12_changed 185 = .ok (.iload 10, 2) := by decide +kernel
theorem dX12_changed_187 : decode cX12_changed 187 = .ok (.iconst 1, 1) := by decide +kernel
theorem dX12_changed_188 : decode cX12_changed 188 = .ok (.isub, 1) := by decide +kernel
theorem dX12_changed_189 : decode cX12_changed 189 = .ok (.iaload, 1) := by decide +kernel
theorem dX12_changed_190 : decode cX12_changed 190 = .ok (.iastore, 1) := by decide +kernel
theorem dX12_changed_191 : decode cX12_changed 191 = .ok (.aload_n 0, 1) := by decide +kernel
theorem dX12_changed_192 : decode cX12_changed 192 = .ok (.getfield 68, 3) := by decide +kernel
theorem dX12_changed_195 : decode cX12_changed 195 = .ok (.iload 10, 2) := by decide +kernel
theorem dX12_changed_197 : decode cX12_changed 197 = .ok (.iconst 1, 1) := by decide +kernel
theorem dX12_changed_198 : decode cX12_changed 198 = .ok (.isub, 1) := by decide +kernel
theorem dX12_changed_199 : decode cX12_changed 199 = .ok (.iload 11, 2) := by decide +kernel
theorem dX12_changed_201 : decode cX12_changed 201 = .ok (.iastore, 1) := by decide +kernel
theorem dX12_changed_202 : decode cX12_changed 202 = .ok (.iinc 10 1, 3) := by decide +kernel
theorem dX12_changed_205 : decode cX12_changed 205 = .ok (.goto (-65), 3) := by decide +kernel
theorem dX12_changed_208 : decode cX12_changed 208 = .ok (.iinc 9 1, 3) := by decide +kernel
theorem dX12_changed_211 : decode cX12_changed 211 = .ok (.goto (-81), 3) := by decide +kernel
theorem dX12_changed_214 : decode cX12_changed 214 = .ok (.ldc 176, 2) := by decide +kernel
theorem dX12_changed_216 : decode cX12_changed 216 = .ok (.istore 9, 2) := by decide +kernel
theorem dX12_changed_218 : decode cX12_changed 218 = .ok (.iconst 0, 1) := by decide +kernel
theorem dX12_changed_219 : decode cX12_changed 219 = .ok (.istore 10, 2) := by decide +kernel
theorem dX12_changed_221 : decode cX12_changed 221 = .ok (.iload 10, 2) := by decide +kernel
theorem dX12_changed_223 : decode cX12_changed 223 = .ok (.aload_n 0, 1) := by decide +kernel
theorem dX12_changed_224 : decode cX12_changed 224 = .ok (.getfield 200, 3) := by decide +kernel
theorem dX12_changed_227 : decode cX12_changed 227 = .ok (.if_icmp .ge 88, 3) := by decide +kernel
theorem dX12_changed_230 : decode cX12_changed 230 = .ok (.iconst 1, 1) := by decide +kernel
theorem dX12_changed_231 : decode cX12_changed 231 = .ok (.istore 11, 2) := by decide +kernel
theorem dX12_changed_233 : decode cX12_changed 233 = .ok (.iconst 0, 1) := by decide +kernel
theorem dX12_changed_234 : decode cX12_changed 234 = .ok (.istore 12, 2) := by decide +kernel
theorem dX12_changed_236 : decode cX12_changed 236 = .ok (.iload 12, 2) := by decide +kernel
theorem dX12_changed_238 : decode cX12_changed 238 = .ok (.bipush 10, 2) := by decide +kernel
theorem dX12_changed_240 : decode cX12_changed 240 = .ok (.if_icmp .ge 55, 3) := by decide +kernel
theorem dX12_changed_243 : decode cX12_changed 243 = .ok (.iload 11, 2) := by decide +kernel
theorem dX12_changed_245 : decode cX12_changed 245 = .ok (.ifCond .eq 41, 3) := by decide +kernel
theorem dX12_changed_248 : decode cX12_changed 248 = .ok (.aload_n 0, 1) := by decide +kernel
theorem dX12_changed_249 : decode cX12_changed 249 = .ok (.getfield 65, 3) := by decide +kernel
theorem dX12_changed_252 : decode cX12_changed 252 = .ok (.bipush 10, 2) := by decide +kernel
theorem dX12_changed_254 : decode cX12_changed 254 = .ok (.iload 10, 2) := by decide +kernel
theorem dX12_changed_256 : decode cX12_changed 256 = .ok (.imul, 1) := by decide +kernel
theorem dX12_changed_257 : decode cX12_changed 257 = .ok (.iload 12, 2) := by decide +kernel
theorem dX12_changed_259 : decode cX12_changed 259 = .ok (.iadd, 1) := by decide +kernel
theorem dX12_changed_260 : decode cX12_changed 260 = .ok (.iaload, 1) := by decide +kernel
theorem dX12_changed_261 : decode cX12_changed 261 = .ok (.iload 12, 2) := by decide +kernel
theorem dX12_changed_263 : decode cX12_changed 263 = .ok (.iload 6, 2) := by decide +kernel
theorem dX12_changed_265 : decode cX12_changed 265 = .ok (.if_icmp .ge 13, 3) := by decide +kernel
theorem dX12_changed_268 : decode cX12_changed 268 = .ok (.aload_n 0, 1) := by decide +kernel
theorem dX12_changed_269 : decode cX12_changed 269 = .ok (.getfield 68, 3) := by decide +kernel
theorem dX12_changed_272 : decode cX12_changed 272 = .ok (.iload 12, 2) := by decide +kernel
theorem dX12_changed_274 : decode cX12_changed 274 = .ok (.iaload, 1) := by decide +kernel
theorem dX12_changed_275 : decode cX12_changed 275 = .ok (.goto 4, 3) := by decide +kernel
theorem dX12_changed_278 : decode cX12_changed 278 = .ok (.iconst 0, 1) := by decide +kernel
theorem dX12_changed_279 : decode cX12_changed 279 = .ok (.if_icmp .ne 7, 3) := by decide +kernel
theorem dX12_changed_282 : decode cX12_changed 282 = .ok (.iconst 1, 1) := by decide +kernel
theorem dX12_changed_283 : decode cX12_changed 283 = .ok (.goto 4, 3) := by decide +kernel
theorem dX12_changed_286 : decode cX12_changed 286 = .ok (.iconst 0, 1) := by decide +kernel
theorem dX12_changed_287 : decode cX12_changed 287 = .ok (.istore 11, 2) := by decide +kernel
theorem dX12_changed_289 : decode cX12_changed 289 = .ok (.iinc 12 1, 3) := by decide +kernel
theorem dX12_changed_292 : decode cX12_changed 292 = .ok (.goto (-56), 3) := by decide +kernel
theorem dX12_changed_295 : decode cX12_changed 295 = .ok (.iload 11, 2) := by decide +kernel
theorem dX12_changed_297 : decode cX12_changed 297 = .ok (.ifCond .eq 8, 3) := by decide +kernel
theorem dX12_changed_300 : decode cX12_changed 300 = .ok (.iload 10, 2) := by decide +kernel
theorem dX12_changed_302 : decode cX12_changed 302 = .ok (.goto 5, 3) := by decide +kernel
theorem dX12_changed_305 : decode cX12_changed 305 = .ok (.iload 9, 2) := by decide +kernel
theorem dX12_changed_307 : decode cX12_changed 307 = .ok (.istore 9, 2) := by decide +kernel
theorem dX12_changed_309 : decode cX12_changed 309 = .ok (.iinc 10 1, 3) := by decide +kernel
theorem dX12_changed_312 : decode cX12_changed 312 = .ok (.goto (-91), 3) := by decide +kernel
theorem dX12_changed_315 : decode cX12_changed 315 = .ok (.iload 9, 2) := by decide +kernel
theorem dX12_changed_317 : decode cX12_changed 317 = .ok (.ireturn, 1) := by decide +kernel
theorem dX12_joins_0 : decode cX12_joins 0 = .ok (.aload_n 0, 1) := by decide +kernel
theorem dX12_joins_1 : decode cX12_joins 1 = .ok (.iconst 0, 1) := by decide +kernel
theorem dX12_joins_2 : decode cX12_joins 2 = .ok (.putfield 78, 3) := by decide +kernel
theorem dX12_joins_5 : decode cX12_joins 5 = .ok (.iload_n 1, 1) := by decide +kernel
theorem dX12_joins_6 : decode cX12_joins 6 = .ok (.i2l, 1) := by decide +kernel
theorem dX12_joins_7 : decode cX12_joins 7 = .ok (.ldc2_w 96, 3) := by decide +kernel
theorem dX12_joins_10 : decode cX12_joins 10 = .ok (.ldc2_w 203, 3) := by decide +kernel
theorem dX12_joins_13 : decode cX12_joins 13 = .ok (.invokestatic 88, 3) := by decide +kernel
theorem dX12_joins_16 : decode cX12_joins 16 = .ok (.ifCond .eq 15, 3) := by decide +kernel
theorem dX12_joins_19 : decode cX12_joins 19 = .ok (.iload_n 2, 1) := by decide +kernel
theorem dX12_joins_20 : decode cX12_joins 20 = .ok (.i2l, 1) := by decide +kernel
theorem dX12_joins_21 : decode cX12_joins 21 = .ok (.lconst 0, 1) := by decide +kernel
theorem dX12_joins_22 : decode cX12_joins 22 = .ok (.ldc2_w 103, 3) := by decide +kernel
theorem dX12_joins_25 : decode cX12_joins 25 = .ok (.invokestatic 88, 3) := by decide +kernel
theorem dX12_joins_28 : decode cX12_joins 28 = .ok (.ifCond .ne 7, 3) := by decide +kernel
theorem dX12_joins_31 : decode cX12_joins 31 = .ok (.ldc2_w 205, 3) := by decide +kernel
theorem dX12_joins_34 : decode cX12_joins 34 = .ok (.lreturn, 1) := by decide +kernel
theorem dX12_joins_35 : decode cX12_joins 35 = .ok (.aload_n 0, 1) := by decide +kernel
theorem dX12_joins_36 : decode cX12_joins 36 = .ok (.iload_n 1, 1) := by decide +kernel
theorem dX12_joins_37 : decode cX12_joins 37 = .ok (.invokevirtual 207, 3) := by decide +kernel
theorem dX12_joins_40 : decode cX12_joins 40 = .ok (.iload_n 3, 1) := by decide +kernel
theorem dX12_joins_41 : decode cX12_joins 41 = .ok (.i2l, 1) := by decide +kernel
theorem dX12_joins_42 : decode cX12_joins 42 = .ok (.lconst 0, 1) := by decide +kernel
theorem dX12_joins_43 : decode cX12_joins 43 = .ok (.aload_n 0, 1) := by decide +kernel
theorem dX12_joins_44 : decode cX12_joins 44 = .ok (.getfield 200, 3) := by decide +kernel
theorem dX12_joins_47 : decode cX12_joins 47 = .ok (.iconst 1, 1) := by decide +kernel
theorem dX12_joins_48 : decode cX12_joins 48 = .ok (.isub, 1) := by decide +kernel
theorem dX12_joins_49 : decode cX12_joins 49 = .ok (.i2l, 1) := by decide +kernel
theorem dX12_joins_50 : decode cX12_joins 50 = .ok (.invokestatic 88, 3) := by decide +kernel
theorem dX12_joins_53 : decode cX12_joins 53 = .ok (.ifCond .ne 7, 3) := by decide +kernel
theorem dX12_joins_56 : decode cX12_joins 56 = .ok (.ldc2_w 205, 3) := by decide +kernel
theorem dX12_joins_59 : decode cX12_joins 59 = .ok (.lreturn, 1) := by decide +kernel
theorem dX12_joins_60 : decode cX12_joins 60 = .ok (.iconst 0, 1) := by decide +kernel
theorem dX12_joins_61 : decode cX12_joins 61 = .ok (.istore 4, 2) := by decide +kernel
theorem dX12_joins_63 : decode cX12_joins 63 = .ok (.iload 4, 2) := by decide +kernel
theorem dX12_joins_65 : decode cX12_joins 65 = .ok (.aload_n 0, 1) := by decide +kernel
theorem dX12_joins_66 : decode cX12_joins 66 = .ok (.getfield 200, 3) := by decide +kernel
theorem dX12_joins_69 : decode cX12_joins 69 = .ok (.if_icmp .ge 32, 3) := by decide +kernel
theorem dX12_joins_72 : decode cX12_joins 72 = .ok (.aload_n 0, 1) := by decide +kernel
theorem dX12_joins_73 : decode cX12_joins 73 = .ok (.getfield 71, 3) := by decide +kernel
theorem dX12_joins_76 : decode cX12_joins 76 = .ok (.iload 4, 2) := by decide +kernel
theorem dX12_joins_78 : decode cX12_joins 78 = .ok (.iload 4, 2) := by decide +kernel
theorem dX12_joins_80 : decode cX12_joins 80 = .ok (.aload_n 0, 1) := by decide +kernel
theorem dX12_joins_81 : decode cX12_joins 81 = .ok (.getfield 200, 3) := by decide +kernel
theorem dX12_joins_84 : decode cX12_joins 84 = .ok (.iconst 1, 1) := by decide +kernel
theorem dX12_joins_85 : decode cX12_joins 85 = .ok (.isub, 1) := by decide +kernel
theorem dX12_joins_86 : decode cX12_joins 86 = .ok (.if_icmp .ne 7, 3) := by decide +kernel
theorem dX12_joins_89 : decode cX12_joins 89 = .ok (.lconst 1, 1) := by decide +kernel
theorem dX12_joins_90 : decode cX12_joins 90 = .ok (.goto 4, 3) := by decide +kernel
theorem dX12_joins_93 : decode cX12_joins 93 = .ok (.lconst 0, 1) := by decide +kernel
theorem dX12_joins_94 : decode cX12_joins 94 = .ok (.lastore, 1) := by decide +kernel
theorem dX12_joins_95 : decode cX12_joins 95 = .ok (.iinc 4 1, 3) := by decide +kernel
theorem dX12_joins_98 : decode cX12_joins 98 = .ok (.goto (-35), 3) := by decide +kernel
theorem dX12_joins_101 : decode cX12_joins 101 = .ok (.iconst 0, 1) := by decide +kernel
theorem dX12_joins_102 : decode cX12_joins 102 = .ok (.istore 4, 2) := by decide +kernel
theorem dX12_joins_104 : decode cX12_joins 104 = .ok (.iload 4, 2) := by decide +kernel
theorem dX12_joins_106 : decode cX12_joins 106 = .ok (.iload_n 2, 1) := by decide +kernel
theorem dX12_joins_107 : decode cX12_joins 107 = .ok (.if_icmp .ge 246, 3) := by decide +kernel
theorem dX12_joins_110 : decode cX12_joins 110 = .ok (.iconst 0, 1) := by decide +kernel
theorem dX12_joins_111 : decode cX12_joins 111 = .ok (.istore 5, 2) := by decide +kernel
theorem dX12_joins_113 : decode cX12_joins 113 = .ok (.iload 5, 2) := by decide +kernel
theorem dX12_joins_115 : decode cX12_joins 115 = .ok (.aload_n 0, 1) := by decide +kernel
theorem dX12_joins_116 : decode cX12_joins 116 = .ok (.getfield 200, 3) := by decide +kernel
theorem dX12_joins_119 : decode cX12_joins 119 = .ok (.if_icmp .ge 196, 3) := by decide +kernel
theorem dX12_joins_122 : decode cX12_joins 122 = .ok (.lconst 0, 1) := by decide +kernel
theorem dX12_joins_123 : decode cX12_joins 123 = .ok (.lstore 6, 2) := by decide +kernel
theorem dX12_joins_125 : decode cX12_joins 125 = .ok (.iconst 0, 1) := by decide +kernel
theorem dX12_joins_126 : decode cX12_joins 126 = .ok (.istore 8, 2) := by decide +kernel
theorem dX12_joins_128 : decode cX12_joins 128 = .ok (.iload 8, 2) := by decide +kernel
theorem dX12_joins_130 : decode cX12_joins 130 = .ok (.bipush 10, 2) := by decide +kernel
theorem dX12_joins_132 : decode cX12_joins 132 = .ok (.if_icmp .ge 168, 3) := by decide +kernel
theorem dX12_joins_135 : decode cX12_joins 135 = .ok (.aload_n 0, 1) := by decide +kernel
theorem dX12_joins_136 : decode cX12_joins 136 = .ok (.getfield 65, 3) := by decide +kernel
theorem dX12_joins_139 : decode cX12_joins 139 = .ok (.bipush 10, 2) := by decide +kernel
theorem dX12_joins_141 : decode cX12_joins 141 = .ok (.iload 5, 2) := by decide +kernel
theorem dX12_joins_143 : decode cX12_joins 143 = .ok (.imul, 1) := by decide +kernel
theorem dX12_joins_144 : decode cX12_joins 144 = .ok (.iload 8, 2) := by decide +kernel
theorem dX12_joins_146 : decode cX12_joins 146 = .ok (.iadd, 1) := by decide +kernel
theorem dX12_joins_147 : decode cX12_joins 147 = .ok (.iaload, 1) := by decide +kernel
theorem dX12_joins_148 : decode cX12_joins 148 = .ok (.istore 9, 2) := by decide +kernel
theorem dX12_joins_150 : decode cX12_joins 150 = .ok (.iconst 1, 1) := by decide +kernel
theorem dX12_joins_151 : decode cX12_joins 151 = .ok (.istore 10, 2) := by decide +kernel
theorem dX12_joins_153 : decode cX12_joins 153 = .ok (.iconst 2, 1) := by decide +kernel
theorem dX12_joins_154 : decode cX12_joins 154 = .ok (.iload 10, 2) := by decide +kernel
theorem dX12_joins_156 : decode cX12_joins 156 = .ok (.imul, 1) := by decide +kernel
theorem dX12_joins_157 : decode cX12_joins 157 = .ok (.iload 9, 2) := by decide +kernel
theorem dX12_joins_159 : decode cX12_joins 159 = .ok (.if_icmp .gt 53, 3) := by decide +kernel
theorem dX12_joins_162 : decode cX12_joins 162 = .ok (.lload 6, 2) := by decide +kernel
theorem dX12_joins_164 : decode cX12_joins 164 = .ok (.iconst 2, 1) := by decide +kernel
theorem dX12_joins_165 : decode cX12_joins 165 = .ok (.iload 10, 2) := by decide +kernel
theorem dX12_joins_167 : decode cX12_joins 167 = .ok (.imul, 1) := by decide +kernel
theorem dX12_joins_168 : decode cX12_joins 168 = .ok (.iload 9, 2) := by decide +kernel
theorem dX12_joins_170 : decode cX12_joins 170 = .ok (.if_icmp .ne 8, 3) := by decide +kernel
theorem dX12_joins_173 : decode cX12_joins 173 = .ok (.iload 10, 2) := by decide +kernel
theorem dX12_joins_175 : decode cX12_joins 175 = .ok (.goto 5, 3) := by decide +kernel
theorem dX12_joins_178 : decode cX12_joins 178 = .ok (.iload 9, 2) := by decide +kernel
theorem dX12_joins_180 : decode cX12_joins 180 = .ok (.i2l, 1) := by decide +kernel
theorem dX12_joins_181 : decode cX12_joins 181 = .ok (.aload_n 0, 1) := by decide +kernel
theorem dX12_joins_182 : decode cX12_joins 182 = .ok (.getfield 71, 3) := by decide +kernel
theorem dX12_joins_185 : decode cX12_joins 185 = .ok (.aload_n 0, 1) := by decide +kernel
theorem dX12_joins_186 : decode cX12_joins 186 = .ok (.iload 5, 2) := by decide +kernel
theorem dX12_joins_188 : decode cX12_joins 188 = .ok (.iload 9, 2) := by decide +kernel
theorem dX12_joins_190 : decode cX12_joins 190 = .ok (.iconst 0, 1) := by decide +kernel
theorem dX12_joins_191 : decode cX12_joins 191 = .ok (.iload 9, 2) := by decide +kernel
theorem dX12_joins_193 : decode cX12_joins 193 = .ok (.iload 10, 2) := by decide +kernel
theorem dX12_joins_195 : decode cX12_joins 195 = .ok (.isub, 1) := by decide +kernel
theorem dX12_joins_196 : decode cX12_joins 196 = .ok (.iload 10, 2) := by decide +kernel
theorem dX12_joins_198 : decode cX12_joins 198 = .ok (.invokevirtual 210, 3) := by decide +kernel
theorem dX12_joins_201 : decode cX12_joins 201 = .ok (.laload, 1) := by decide +kernel
theorem dX12_joins_202 : decode cX12_joins 202 = .ok (.lmul, 1) := by decide +kernel
theorem dX12_joins_203 : decode cX12_joins 203 = .ok (.ladd, 1) := by decide +kernel
theorem dX12_joins_204 : decode cX12_joins 204 = .ok (.lstore 6, 2) := by decide +kernel
theorem dX12_joins_206 : decode cX12_joins 206 = .ok (.iinc 10 1, 3) := by decide +kernel
theorem dX12_joins_209 : decode cX12_joins 209 = .ok (.goto (-56), 3) := by decide +kernel
theorem dX12_joins_212 : decode cX12_joins 212 = .ok (.iload 8, 2) := by decide +kernel
theorem dX12_joins_214 : decode cX12_joins 214 = .ok (.iconst 1, 1) := by decide +kernel
theorem dX12_joins_215 : decode cX12_joins 215 = .ok (.iadd, 1) := by decide +kernel
theorem dX12_joins_216 : decode cX12_joins 216 = .ok (.istore 10, 2) := by decide +kernel
theorem dX12_joins_218 : decode cX12_joins 218 = .ok (.iload 10, 2) := by decide +kernel
theorem dX12_joins_220 : decode cX12_joins 220 = .ok (.bipush 10, 2) := by decide +kernel
theorem dX12_joins_222 : decode cX12_joins 222 = .ok (.if_icmp .ge 72, 3) := by decide +kernel
theorem dX12_joins_225 : decode cX12_joins 225 = .ok (.aload_n 0, 1) := by decide +kernel
theorem dX12_joins_226 : decode cX12_joins 226 = .ok (.getfield 65, 3) := by decide +kernel
theorem dX12_joins_229 : decode cX12_joins 229 = .ok (.bipush 10, 2) := by decide +kernel
theorem dX12_joins_231 : decode cX12_joins 231 = .ok (.iload 5, 2) := by decide +kernel
theorem dX12_joins_233 : decode cX12_joins 233 = .ok (.imul, 1) := by decide +kernel
theorem dX12_joins_234 : decode cX12_joins 234 = .ok (.iload 10, 2) := by decide +kernel
theorem dX12_joins_236 : decode cX12_joins 236 = .ok (.iadd, 1) := by decide +kernel
theorem dX12_joins_237 : decode cX12_joins 237 = .ok (.iaload, 1) := by decide +kernel
theorem dX12_joins_238 : decode cX12_joins 238 = .ok (.istore 11, 2) := by decide +kernel
theorem dX12_joins_240 : decode cX12_joins 240 = .ok (.lload 6, 2) := by decide +kernel
theorem dX12_joins_242 : decode cX12_joins 242 = .ok (.iload 9, 2) := by decide +kernel
theorem dX12_joins_244 : decode cX12_joins 244 = .ok (.ifCond .le 40, 3) := by decide +kernel
theorem dX12_joins_247 : decode cX12_joins 247 = .ok (.iload 11, 2) := by decide +kernel
theorem dX12_joins_249 : decode cX12_joins 249 = .ok (.ifCond .le 35, 3) := by decide +kernel
theorem dX12_joins_252 : decode cX12_joins 252 = .ok (.iload 9, 2) := by decide +kernel
theorem dX12_joins_254 : decode cX12_joins 254 = .ok (.i2l, 1) := by decide +kernel
theorem dX12_joins_255 : decode cX12_joins 255 = .ok (.iload 11, 2) := by decide +kernel
theorem dX12_joins_257 : decode cX12_joins 257 = .ok (.i2l, 1) := by decide +kernel
theorem dX12_joins_258 : decode cX12_joins 258 = .ok (.lmul, 1) := by decide +kernel
theorem dX12_joins_259 : decode cX12_joins 259 = .ok (.aload_n 0, 1) := by decide +kernel
theorem dX12_joins_260 : decode cX12_joins 260 = .ok (.getfield 71, 3) := by decide +kernel
theorem dX12_joins_263 : decode cX12_joins 263 = .ok (.aload_n 0, 1) := by decide +kernel
theorem dX12_joins_264 : decode cX12_joins 264 = .ok (.iload 5, 2) := by decide +kernel
theorem dX12_joins_266 : decode cX12_joins 266 = .ok (.iload 9, 2) := by decide +kernel
theorem dX12_joins_268 : decode cX12_joins 268 = .ok (.iload 11, 2) := by decide +kernel
theorem dX12_joins_270 : decode cX12_joins 270 = .ok (.iload 9, 2) := by decide +kernel
theorem dX12_joins_272 : decode cX12_joins 272 = .ok (.iload 11, 2) := by decide +kernel
theorem dX12_joins_274 : decode cX12_joins 274 = .ok (.iadd, 1) := by decide +kernel
theorem dX12_joins_275 : decode cX12_joins 275 = .ok (.iconst 0, 1) := by decide +kernel
theorem dX12_joins_276 : decode cX12_joins 276 = .ok (.invokevirtual 210, 3) := by decide +kernel
theorem dX12_joins_279 : decode cX12_joins 279 = .ok (.laload, 1) := by decide +kernel
theorem dX12_joins_280 : decode cX12_joins 280 = .ok (.lmul, 1) := by decide +kernel
theorem dX12_joins_281 : decode cX12_joins 281 = .ok (.goto 4, 3) := by decide +kernel
theorem dX12_joins_284 : decode cX12_joins 284 = .ok (.lconst 0, 1) := by decide +kernel
theorem dX12_joins_285 : decode cX12_joins 285 = .ok (.ladd, 1) := by decide +kernel
theorem dX12_joins_286 : decode cX12_joins 286 = .ok (.lstore 6, 2) := by decide +kernel
theorem dX12_joins_288 : decode cX12_joins 288 = .ok (.iinc 10 1, 3) := by decide +kernel
theorem dX12_joins_291 : decode cX12_joins 291 = .ok (.goto (-73), 3) := by decide +kernel
theorem dX12_joins_294 : decode cX12_joins 294 = .ok (.iinc 8 1, 3) := by decide +kernel
theorem dX12_joins_297 : decode cX12_joins 297 = .ok (.goto (-169), 3) := by decide +kernel
theorem dX12_joins_300 : decode cX12_joins 300 = .ok (.aload_n 0, 1) := by decide +kernel
theorem dX12_joins_301 : decode cX12_joins 301 = .ok (.getfield 75, 3) := by decide +kernel
theorem dX12_joins_304 : decode cX12_joins 304 = .ok (.iload 5, 2) := by decide +kernel
theorem dX12_joins_306 : decode cX12_joins 306 = .ok (.lload 6, 2) := by decide +kernel
theorem dX12_joins_308 : decode cX12_joins 308 = .ok (.lastore, 1) := by decide +kernel
theorem dX12_joins_309 : decode cX12_joins 309 = .ok (.iinc 5 1, 3) := by decide +kernel
theorem dX12_joins_312 : decode cX12_joins 312 = .ok (.goto (-199), 3) := by decide +kernel
theorem dX12_joins_315 : decode cX12_joins 315 = .ok (.iconst 0, 1) := by decide +kernel
theorem dX12_joins_316 : decode cX12_joins 316 = .ok (.istore 5, 2) := by decide +kernel
theorem dX12_joins_318 : decode cX12_joins 318 = .ok (.iload 5, 2) := by decide +kernel
theorem dX12_joins_320 : decode cX12_joins 320 = .ok (.aload_n 0, 1) := by decide +kernel
theorem dX12_joins_321 : decode cX12_joins 321 = .ok (.getfield 200, 3) := by decide +kernel
theorem dX12_joins_324 : decode cX12_joins 324 = .ok (.if_icmp .ge 23, 3) := by decide +kernel
theorem dX12_joins_327 : decode cX12_joins 327 = .ok (.aload_n 0, 1) := by decide +kernel
theorem dX12_joins_328 : decode cX12_joins 328 = .ok (.getfield 71, 3) := by decide +kernel
theorem dX12_joins_331 : decode cX12_joins 331 = .ok (.iload 5, 2) := by decide +kernel
theorem dX12_joins_333 : decode cX12_joins 333 = .ok (.aload_n 0, 1) := by decide +kernel
theorem dX12_joins_334 : decode cX12_joins 334 = .ok (.getfield 75, 3) := by decide +kernel
theorem dX12_joins_337 : decode cX12_joins 337 = .ok (.iload 5, 2) := by decide +kernel
theorem dX12_joins_339 : decode cX12_joins 339 = .ok (.laload, 1) := by decide +kernel
theorem dX12_joins_340 : decode cX12_joins 340 = .ok (.lastore, 1) := by decide +kernel
theorem dX12_joins_341 : decode cX12_joins 341 = .ok (.iinc 5 1, 3) := by decide +kernel
theorem dX12_joins_344 : decode cX12_joins 344 = .ok (.goto (-26), 3) := by decide +kernel
theorem dX12_joins_347 : decode cX12_joins 347 = .ok (.iinc 4 1, 3) := by decide +kernel
theorem dX12_joins_350 : decode cX12_joins 350 = .ok (.goto (-246), 3) := by decide +kernel
theorem dX12_joins_353 : decode cX12_joins 353 = .ok (.aload_n 0, 1) := by decide +kernel
theorem dX12_joins_354 : decode cX12_joins 354 = .ok (.getfield 71, 3) := by decide +kernel
theorem dX12_joins_357 : decode cX12_joins 357 = .ok (.iload_n 3, 1) := by decide +kernel
theorem dX12_joins_358 : decode cX12_joins 358 = .ok (.laload, 1) := by decide +kernel
theorem dX12_joins_359 : decode cX12_joins 359 = .ok (.lreturn, 1) := by decide +kernel
theorem dX12_shapes_0 : decode cX12_shapes 0 = .ok (.aload_n 0, 1) := by decide +kernel
theorem dX12_shapes_1 : decode cX12_shapes 1 = .ok (.iconst 0, 1) := by decide +kernel
theorem dX12_shapes_2 : decode cX12_shapes 2 = .ok (.putfield 78, 3) := by decide +kernel
theorem dX12_shapes_5 : decode cX12_shapes 5 = .ok (.iload_n 1, 1) := by decide +kernel
theorem dX12_shapes_6 : decode cX12_shapes 6 = .ok (.i2l, 1) := by decide +kernel
theorem dX12_shapes_7 : decode cX12_shapes 7 = .ok (.lconst 1, 1) := by decide +kernel
theorem dX12_shapes_8 : decode cX12_shapes 8 = .ok (.ldc2_w 203, 3) := by decide +kernel
theorem dX12_shapes_11 : decode cX12_shapes 11 = .ok (.invokestatic 88, 3) := by decide +kernel
theorem dX12_shapes_14 : decode cX12_shapes 14 = .ok (.ifCond .ne 6, 3) := by decide +kernel
theorem dX12_shapes_17 : decode cX12_shapes 17 = .ok (.ldc 98, 2) := by decide +kernel
theorem dX12_shapes_19 : decode cX12_shapes 19 = .ok (.ireturn, 1) := by decide +kernel
theorem dX12_shapes_20 : decode cX12_shapes 20 = .ok (.aload_n 0, 1) := by decide +kernel
theorem dX12_shapes_21 : decode cX12_shapes 21 = .ok (.iload_n 1, 1) := by decide +kernel
theorem dX12_shapes_22 : decode cX12_shapes 22 = .ok (.invokevirtual 207, 3) := by decide +kernel
theorem dX12_shapes_25 : decode cX12_shapes 25 = .ok (.iload_n 2, 1) := by decide +kernel
theorem dX12_shapes_26 : decode cX12_shapes 26 = .ok (.ldc 176, 2) := by decide +kernel
theorem dX12_shapes_28 : decode cX12_shapes 28 = .ok (.if_icmp .ne 8, 3) := by decide +kernel
theorem dX12_shapes_31 : decode cX12_shapes 31 = .ok (.aload_n 0, 1) := by decide +kernel
theorem dX12_shapes_32 : decode cX12_shapes 32 = .ok (.getfield 200, 3) := by decide +kernel
theorem dX12_shapes_35 : decode cX12_shapes 35 = .ok (.ireturn, 1) := by decide +kernel
theorem dX12_shapes_36 : decode cX12_shapes 36 = .ok (.iload_n 2, 1) := by decide +kernel
theorem dX12_shapes_37 : decode cX12_shapes 37 = .ok (.i2l, 1) := by decide +kernel
theorem dX12_shapes_38 : decode cX12_shapes 38 = .ok (.lconst 0, 1) := by decide +kernel
theorem dX12_shapes_39 : decode cX12_shapes 39 = .ok (.aload_n 0, 1) := by decide +kernel
theorem dX12_shapes_40 : decode cX12_shapes 40 = .ok (.getfield 200, 3) := by decide +kernel
theorem dX12_shapes_43 : decode cX12_shapes 43 = .ok (.iconst 1, 1) := by decide +kernel
theorem dX12_shapes_44 : decode cX12_shapes 44 = .ok (.isub, 1) := by decide +kernel
theorem dX12_shapes_45 : decode cX12_shapes 45 = .ok (.i2l, 1) := by decide +kernel
theorem dX12_shapes_46 : decode cX12_shapes 46 = .ok (.invokestatic 88, 3) := by decide +kernel
theorem dX12_shapes_49 : decode cX12_shapes 49 = .ok (.ifCond .ne 6, 3) := by decide +kernel
theorem dX12_shapes_52 : decode cX12_shapes 52 = .ok (.ldc 98, 2) := by decide +kernel
theorem dX12_shapes_54 : decode cX12_shapes 54 = .ok (.ireturn, 1) := by decide +kernel
theorem dX12_shapes_55 : decode cX12_shapes 55 = .ok (.iload_n 3, 1) := by decide +kernel
theorem dX12_shapes_56 : decode cX12_shapes 56 = .ok (.i2l, 1) := by decide +kernel
theorem dX12_shapes_57 : decode cX12_shapes 57 = .ok (.lconst 0, 1) := by decide +kernel
theorem dX12_shapes_58 : decode cX12_shapes 58 = .ok (.ldc2_w 103, 3) := by decide +kernel
theorem dX12_shapes_61 : decode cX12_shapes 61 = .ok (.invokestatic 88, 3) := by decide +kernel
theorem dX12_shapes_64 : decode cX12_shapes 64 = .ok (.ifCond .eq 31, 3) := by decide +kernel
theorem dX12_shapes_67 : decode cX12_shapes 67 = .ok (.aload_n 0, 1) := by decide +kernel
theorem dX12_shapes_68 : decode cX12_shapes 68 = .ok (.getfield 65, 3) := by decide +kernel
theorem dX12_shapes_71 : decode cX12_shapes 71 = .ok (.bipush 10, 2) := by decide +kernel
theorem dX12_shapes_73 : decode cX12_shapes 73 = .ok (.iload_n 2, 1) := by decide +kernel
theorem dX12_shapes_74 : decode cX12_shapes 74 = .ok (.imul, 1) := by decide +kernel
theorem dX12_shapes_75 : decode cX12_shapes 75 = .ok (.iload_n 3, 1) := by decide +kernel
theorem dX12_shapes_76 : decode cX12_shapes 76 = .ok (.iadd, 1) := by decide +kernel
theorem dX12_shapes_77 : decode cX12_shapes 77 = .ok (.iaload, 1) := by decide +kernel
theorem dX12_shapes_78 : decode cX12_shapes 78 = .ok (.ifCond .le 17, 3) := by decide +kernel
theorem dX12_shapes_81 : decode cX12_shapes 81 = .ok (.aload_n 0, 1) := by decide +kernel
theorem dX12_shapes_82 : decode cX12_shapes 82 = .ok (.getfield 65, 3) := by decide +kernel
theorem dX12_shapes_85 : decode cX12_shapes 85 = .ok (.bipush 10, 2) := by decide +kernel
theorem dX12_shapes_87 : decode cX12_shapes 87 = .ok (.iload_n 2, 1) := by decide +kernel
theorem dX12_shapes_88 : decode cX12_shapes 88 = .ok (.imul, 1) := by decide +kernel
theorem dX12_shapes_89 : decode cX12_shapes 89 = .ok (.iload_n 3, 1) := by decide +kernel
theorem dX12_shapes_90 : decode cX12_shapes 90 = .ok (.iadd, 1) := by decide +kernel
theorem dX12_shapes_91 : decode cX12_shapes 91 = .ok (.iaload, 1) := by decide +kernel
theorem dX12_shapes_92 : decode cX12_shapes 92 = .ok (.goto 5, 3) := by decide +kernel
theorem dX12_shapes_95 : decode cX12_shapes 95 = .ok (.ldc 176, 2) := by decide +kernel
theorem dX12_shapes_97 : decode cX12_shapes 97 = .ok (.ireturn, 1) := by decide +kernel
theorem dX12_count_0 : decode cX12_count 0 = .ok (.aload_n 0, 1) := by decide +kernel
theorem dX12_count_1 : decode cX12_count 1 = .ok (.iconst 0, 1) := by decide +kernel
theorem dX12_count_2 : decode cX12_count 2 = .ok (.putfield 78, 3) := by decide +kernel
theorem dX12_count_5 : decode cX12_count 5 = .ok (.iconst 0, 1) := by decide +kernel
theorem dX12_count_6 : decode cX12_count 6 = .ok (.istore_n 2, 1) := by decide +kernel
theorem dX12_count_7 : decode cX12_count 7 = .ok (.iload_n 1, 1) := by decide +kernel
theorem dX12_count_8 : decode cX12_count 8 = .ok (.tableswitch 166 0 6 #[44, 77, 77, 77, 77, 77, 124], 44) := by decide +kernel
theorem dX12_count_52 : decode cX12_count 52 = .ok (.iconst 0, 1) := by decide +kernel
theorem dX12_count_53 : decode cX12_count 53 = .ok (.istore_n 3, 1) := by decide +kernel
theorem dX12_count_54 : decode cX12_count 54 = .ok (.iload_n 3, 1) := by decide +kernel
theorem dX12_count_55 : decode cX12_count 55 = .ok (.bipush 8, 2) := by decide +kernel
theorem dX12_count_57 : decode cX12_count 57 = .ok (.if_icmp .ge 26, 3) := by decide +kernel
theorem dX12_count_60 : decode cX12_count 60 = .ok (.iload_n 2, 1) := by decide +kernel
theorem dX12_count_61 : decode cX12_count 61 = .ok (.aload_n 0, 1) := by decide +kernel
theorem dX12_count_62 : decode cX12_count 62 = .ok (.getfield 7, 3) := by decide +kernel
theorem dX12_count_65 : decode cX12_count 65 = .ok (.iload_n 3, 1) := by decide +kernel
theorem dX12_count_66 : decode cX12_count 66 = .ok (.iaload, 1) := by decide +kernel
theorem dX12_count_67 : decode cX12_count 67 = .ok (.ifCond .lt 7, 3) := by decide +kernel
theorem dX12_count_70 : decode cX12_count 70 = .ok (.iconst 1, 1) := by decide +kernel
theorem dX12_count_71 : decode cX12_count 71 = .ok (.goto 4, 3) := by decide +kernel
theorem dX12_count_74 : decode cX12_count 74 = .ok (.iconst 0, 1) := by decide +kernel
theorem dX12_count_75 : decode cX12_count 75 = .ok (.iadd, 1) := by decide +kernel
theorem dX12_count_76 : decode cX12_count 76 = .ok (.istore_n 2, 1) := by decide +kernel
theorem dX12_count_77 : decode cX12_count 77 = .ok (.iinc 3 1, 3) := by decide +kernel
theorem dX12_count_80 : decode cX12_count 80 = .ok (.goto (-26), 3) := by decide +kernel
theorem dX12_count_83 : decode cX12_count 83 = .ok (.iload_n 2, 1) := by decide +kernel
theorem dX12_count_84 : decode cX12_count 84 = .ok (.ireturn, 1) := by decide +kernel
theorem dX12_count_85 : decode cX12_count 85 = .ok (.iconst 0, 1) := by decide +kernel
theorem dX12_count_86 : decode cX12_count 86 = .ok (.istore_n 3, 1) := by decide +kernel
theorem dX12_count_87 : decode cX12_count 87 = .ok (.iload_n 3, 1) := by decide +kernel
theorem dX12_count_88 : decode cX12_count 88 = .ok (.bipush 10, 2) := by decide +kernel
theorem dX12_count_90 : decode cX12_count 90 = .ok (.if_icmp .ge 40, 3) := by decide +kernel
theorem dX12_count_93 : decode cX12_count 93 = .ok (.iload_n 2, 1) := by decide +kernel
theorem dX12_count_94 : decode cX12_count 94 = .ok (.aload_n 0, 1) := by decide +kernel
theorem dX12_count_95 : decode cX12_count 95 = .ok (.getfield 19, 3) := by decide +kernel
theorem dX12_count_98 : decode cX12_count 98 = .ok (.iload_n 3, 1) := by decide +kernel
theorem dX12_count_99 : decode cX12_count 99 = .ok (.iaload, 1) := by decide +kernel
theorem dX12_count_100 : decode cX12_count 100 = .ok (.ifCond .le 21, 3) := by decide +kernel
theorem dX12_count_103 : decode cX12_count 103 = .ok (.aload_n 0, 1) := by decide +kernel
theorem dX12_count_104 : decode cX12_count 104 = .ok (.iload_n 3, 1) := by decide +kernel
theorem dX12_count_105 : decode cX12_count 105 = .ok (.invokevirtual 117, 3) := by decide +kernel
theorem dX12_count_108 : decode cX12_count 108 = .ok (.iload_n 1, 1) := by decide +kernel
theorem dX12_count_109 : decode cX12_count 109 = .ok (.iconst 1, 1) := by decide +kernel
theorem dX12_count_110 : decode cX12_count 110 = .ok (.isub, 1) := by decide +kernel
theorem dX12_count_111 : decode cX12_count 111 = .ok (.invokestatic 184, 3) := by decide +kernel
theorem dX12_count_114 : decode cX12_count 114 = .ok (.ifCond .eq 7, 3) := by decide +kernel
theorem dX12_count_117 : decode cX12_count 117 = .ok (.iconst 1, 1) := by decide +kernel
theorem dX12_count_118 : decode cX12_count 118 = .ok (.goto 4, 3) := by decide +kernel
theorem dX12_count_121 : decode cX12_count 121 = .ok (.iconst 0, 1) := by decide +kernel
theorem dX12_count_122 : decode cX12_count 122 = .ok (.iadd, 1) := by decide +kernel
theorem dX12_count_123 : decode cX12_count 123 = .ok (.istore_n 2, 1) := by decide +kernel
theorem dX12_count_124 : decode cX12_count 124 = .ok (.iinc 3 1, 3) := by decide +kernel
theorem dX12_count_127 : decode cX12_count 127 = .ok (.goto (-40), 3) := by decide +kernel
theorem dX12_count_130 : decode cX12_count 130 = .ok (.iload_n 2, 1) := by decide +kernel
theorem dX12_count_131 : decode cX12_count 131 = .ok (.ireturn, 1) := by decide +kernel
theorem dX12_count_132 : decode cX12_count 132 = .ok (.iconst 0, 1) := by decide +kernel
theorem dX12_count_133 : decode cX12_count 133 = .ok (.istore_n 3, 1) := by decide +kernel
theorem dX12_count_134 : decode cX12_count 134 = .ok (.iload_n 3, 1) := by decide +kernel
