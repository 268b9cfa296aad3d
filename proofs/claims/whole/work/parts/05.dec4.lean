theorem dX12_cover_266 : decode cX12_cover 266 = .ok (.aload_n 0, 1) := by decide +kernel
theorem dX12_cover_267 : decode cX12_cover 267 = .ok (.getfield 16, 3) := by decide +kernel
theorem dX12_cover_270 : decode cX12_cover 270 = .ok (.bipush 96, 2) := by decide +kernel
theorem dX12_cover_272 : decode cX12_cover 272 = .ok (.iload_n 2, 1) := by decide +kernel
theorem dX12_cover_273 : decode cX12_cover 273 = .ok (.imul, 1) := by decide +kernel
theorem dX12_cover_274 : decode cX12_cover 274 = .ok (.iload_n 3, 1) := by decide +kernel
theorem dX12_cover_275 : decode cX12_cover 275 = .ok (.iadd, 1) := by decide +kernel
theorem dX12_cover_276 : decode cX12_cover 276 = .ok (.iload 8, 2) := by decide +kernel
theorem dX12_cover_278 : decode cX12_cover 278 = .ok (.iload 4, 2) := by decide +kernel
theorem dX12_cover_280 : decode cX12_cover 280 = .ok (.imul, 1) := by decide +kernel
theorem dX12_cover_281 : decode cX12_cover 281 = .ok (.iadd, 1) := by decide +kernel
theorem dX12_cover_282 : decode cX12_cover 282 = .ok (.iload 7, 2) := by decide +kernel
theorem dX12_cover_284 : decode cX12_cover 284 = .ok (.iadd, 1) := by decide +kernel
theorem dX12_cover_285 : decode cX12_cover 285 = .ok (.iaload, 1) := by decide +kernel
theorem dX12_cover_286 : decode cX12_cover 286 = .ok (.istore 7, 2) := by decide +kernel
theorem dX12_cover_288 : decode cX12_cover 288 = .ok (.iinc 8 1, 3) := by decide +kernel
theorem dX12_cover_291 : decode cX12_cover 291 = .ok (.goto (-64), 3) := by decide +kernel
theorem dX12_cover_294 : decode cX12_cover 294 = .ok (.aload_n 0, 1) := by decide +kernel
theorem dX12_cover_295 : decode cX12_cover 295 = .ok (.bipush 10, 2) := by decide +kernel
theorem dX12_cover_297 : decode cX12_cover 297 = .ok (.iload 5, 2) := by decide +kernel
theorem dX12_cover_299 : decode cX12_cover 299 = .ok (.iconst 1, 1) := by decide +kernel
theorem dX12_cover_300 : decode cX12_cover 300 = .ok (.isub, 1) := by decide +kernel
theorem dX12_cover_301 : decode cX12_cover 301 = .ok (.iload 7, 2) := by decide +kernel
theorem dX12_cover_303 : decode cX12_cover 303 = .ok (.iload 6, 2) := by decide +kernel
theorem dX12_cover_305 : decode cX12_cover 305 = .ok (.invokevirtual 127, 3) := by decide +kernel
theorem dX12_cover_308 : decode cX12_cover 308 = .ok (.iinc 6 1, 3) := by decide +kernel
theorem dX12_cover_311 : decode cX12_cover 311 = .ok (.goto (-98), 3) := by decide +kernel
theorem dX12_cover_314 : decode cX12_cover 314 = .ok (.aload_n 0, 1) := by decide +kernel
theorem dX12_cover_315 : decode cX12_cover 315 = .ok (.iload_n 1, 1) := by decide +kernel
theorem dX12_cover_316 : decode cX12_cover 316 = .ok (.invokevirtual 131, 3) := by decide +kernel
theorem dX12_cover_319 : decode cX12_cover 319 = .ok (.ireturn, 1) := by decide +kernel
theorem dX12_look_0 : decode cX12_look 0 = .ok (.aload_n 0, 1) := by decide +kernel
theorem dX12_look_1 : decode cX12_look 1 = .ok (.iconst 0, 1) := by decide +kernel
theorem dX12_look_2 : decode cX12_look 2 = .ok (.putfield 82, 3) := by decide +kernel
theorem dX12_look_5 : decode cX12_look 5 = .ok (.aload_n 0, 1) := by decide +kernel
theorem dX12_look_6 : decode cX12_look 6 = .ok (.getfield 19, 3) := by decide +kernel
theorem dX12_look_9 : decode cX12_look 9 = .ok (.iload_n 1, 1) := by decide +kernel
theorem dX12_look_10 : decode cX12_look 10 = .ok (.iaload, 1) := by decide +kernel
theorem dX12_look_11 : decode cX12_look 11 = .ok (.ifCond .ne 11, 3) := by decide +kernel
theorem dX12_look_14 : decode cX12_look 14 = .ok (.aload_n 0, 1) := by decide +kernel
theorem dX12_look_15 : decode cX12_look 15 = .ok (.iconst 1, 1) := by decide +kernel
theorem dX12_look_16 : decode cX12_look 16 = .ok (.invokevirtual 99, 3) := by decide +kernel
theorem dX12_look_19 : decode cX12_look 19 = .ok (.goto 25, 3) := by decide +kernel
theorem dX12_look_22 : decode cX12_look 22 = .ok (.iload_n 2, 1) := by decide +kernel
theorem dX12_look_23 : decode cX12_look 23 = .ok (.ifCond .eq 20, 3) := by decide +kernel
theorem dX12_look_26 : decode cX12_look 26 = .ok (.aload_n 0, 1) := by decide +kernel
theorem dX12_look_27 : decode cX12_look 27 = .ok (.iload_n 1, 1) := by decide +kernel
theorem dX12_look_28 : decode cX12_look 28 = .ok (.invokevirtual 134, 3) := by decide +kernel
theorem dX12_look_31 : decode cX12_look 31 = .ok (.iconst 1, 1) := by decide +kernel
theorem dX12_look_32 : decode cX12_look 32 = .ok (.if_icmp .le 11, 3) := by decide +kernel
theorem dX12_look_35 : decode cX12_look 35 = .ok (.aload_n 0, 1) := by decide +kernel
theorem dX12_look_36 : decode cX12_look 36 = .ok (.iconst 3, 1) := by decide +kernel
theorem dX12_look_37 : decode cX12_look 37 = .ok (.invokevirtual 99, 3) := by decide +kernel
theorem dX12_look_40 : decode cX12_look 40 = .ok (.goto 4, 3) := by decide +kernel
theorem dX12_look_43 : decode cX12_look 43 = .ok (.iconst 0, 1) := by decide +kernel
theorem dX12_look_44 : decode cX12_look 44 = .ok (.ireturn, 1) := by decide +kernel
theorem dX12_part_0 : decode cX12_part 0 = .ok (.aload_n 0, 1) := by decide +kernel
theorem dX12_part_1 : decode cX12_part 1 = .ok (.iconst 0, 1) := by decide +kernel
theorem dX12_part_2 : decode cX12_part 2 = .ok (.putfield 78, 3) := by decide +kernel
theorem dX12_part_5 : decode cX12_part 5 = .ok (.iload_n 1, 1) := by decide +kernel
theorem dX12_part_6 : decode cX12_part 6 = .ok (.invokestatic 120, 3) := by decide +kernel
theorem dX12_part_9 : decode cX12_part 9 = .ok (.ifCond .eq 10, 3) := by decide +kernel
theorem dX12_part_12 : decode cX12_part 12 = .ok (.iload_n 2, 1) := by decide +kernel
theorem dX12_part_13 : decode cX12_part 13 = .ok (.invokestatic 120, 3) := by decide +kernel
theorem dX12_part_16 : decode cX12_part 16 = .ok (.ifCond .ne 6, 3) := by decide +kernel
theorem dX12_part_19 : decode cX12_part 19 = .ok (.ldc 98, 2) := by decide +kernel
theorem dX12_part_21 : decode cX12_part 21 = .ok (.ireturn, 1) := by decide +kernel
theorem dX12_part_22 : decode cX12_part 22 = .ok (.aload_n 0, 1) := by decide +kernel
theorem dX12_part_23 : decode cX12_part 23 = .ok (.getfield 82, 3) := by decide +kernel
theorem dX12_part_26 : decode cX12_part 26 = .ok (.istore 4, 2) := by decide +kernel
theorem dX12_part_28 : decode cX12_part 28 = .ok (.aload_n 0, 1) := by decide +kernel
theorem dX12_part_29 : decode cX12_part 29 = .ok (.iload_n 2, 1) := by decide +kernel
theorem dX12_part_30 : decode cX12_part 30 = .ok (.iconst 0, 1) := by decide +kernel
theorem dX12_part_31 : decode cX12_part 31 = .ok (.invokevirtual 137, 3) := by decide +kernel
theorem dX12_part_34 : decode cX12_part 34 = .ok (.istore 5, 2) := by decide +kernel
theorem dX12_part_36 : decode cX12_part 36 = .ok (.iload 5, 2) := by decide +kernel
theorem dX12_part_38 : decode cX12_part 38 = .ok (.ifCond .ge 6, 3) := by decide +kernel
theorem dX12_part_41 : decode cX12_part 41 = .ok (.iload 5, 2) := by decide +kernel
theorem dX12_part_43 : decode cX12_part 43 = .ok (.ireturn, 1) := by decide +kernel
theorem dX12_part_44 : decode cX12_part 44 = .ok (.iload_n 3, 1) := by decide +kernel
theorem dX12_part_45 : decode cX12_part 45 = .ok (.i2l, 1) := by decide +kernel
theorem dX12_part_46 : decode cX12_part 46 = .ok (.lconst 0, 1) := by decide +kernel
theorem dX12_part_47 : decode cX12_part 47 = .ok (.aload_n 0, 1) := by decide +kernel
theorem dX12_part_48 : decode cX12_part 48 = .ok (.iload_n 2, 1) := by decide +kernel
theorem dX12_part_49 : decode cX12_part 49 = .ok (.invokevirtual 134, 3) := by decide +kernel
theorem dX12_part_52 : decode cX12_part 52 = .ok (.iconst 1, 1) := by decide +kernel
theorem dX12_part_53 : decode cX12_part 53 = .ok (.isub, 1) := by decide +kernel
theorem dX12_part_54 : decode cX12_part 54 = .ok (.i2l, 1) := by decide +kernel
theorem dX12_part_55 : decode cX12_part 55 = .ok (.invokestatic 88, 3) := by decide +kernel
theorem dX12_part_58 : decode cX12_part 58 = .ok (.ifCond .ne 12, 3) := by decide +kernel
theorem dX12_part_61 : decode cX12_part 61 = .ok (.aload_n 0, 1) := by decide +kernel
theorem dX12_part_62 : decode cX12_part 62 = .ok (.iload 4, 2) := by decide +kernel
theorem dX12_part_64 : decode cX12_part 64 = .ok (.putfield 82, 3) := by decide +kernel
theorem dX12_part_67 : decode cX12_part 67 = .ok (.ldc 98, 2) := by decide +kernel
theorem dX12_part_69 : decode cX12_part 69 = .ok (.ireturn, 1) := by decide +kernel
theorem dX12_part_70 : decode cX12_part 70 = .ok (.iconst 0, 1) := by decide +kernel
theorem dX12_part_71 : decode cX12_part 71 = .ok (.istore 6, 2) := by decide +kernel
theorem dX12_part_73 : decode cX12_part 73 = .ok (.iconst 0, 1) := by decide +kernel
theorem dX12_part_74 : decode cX12_part 74 = .ok (.istore 7, 2) := by decide +kernel
theorem dX12_part_76 : decode cX12_part 76 = .ok (.iload 7, 2) := by decide +kernel
theorem dX12_part_78 : decode cX12_part 78 = .ok (.aload_n 0, 1) := by decide +kernel
theorem dX12_part_79 : decode cX12_part 79 = .ok (.getfield 19, 3) := by decide +kernel
theorem dX12_part_82 : decode cX12_part 82 = .ok (.iload_n 2, 1) := by decide +kernel
theorem dX12_part_83 : decode cX12_part 83 = .ok (.iaload, 1) := by decide +kernel
theorem dX12_part_84 : decode cX12_part 84 = .ok (.if_icmp .ge 39, 3) := by decide +kernel
theorem dX12_part_87 : decode cX12_part 87 = .ok (.aload_n 0, 1) := by decide +kernel
theorem dX12_part_88 : decode cX12_part 88 = .ok (.getfield 38, 3) := by decide +kernel
theorem dX12_part_91 : decode cX12_part 91 = .ok (.iload 7, 2) := by decide +kernel
theorem dX12_part_93 : decode cX12_part 93 = .ok (.iload 6, 2) := by decide +kernel
theorem dX12_part_95 : decode cX12_part 95 = .ok (.iastore, 1) := by decide +kernel
theorem dX12_part_96 : decode cX12_part 96 = .ok (.iload 6, 2) := by decide +kernel
theorem dX12_part_98 : decode cX12_part 98 = .ok (.aload_n 0, 1) := by decide +kernel
theorem dX12_part_99 : decode cX12_part 99 = .ok (.getfield 35, 3) := by decide +kernel
theorem dX12_part_102 : decode cX12_part 102 = .ok (.iload 7, 2) := by decide +kernel
theorem dX12_part_104 : decode cX12_part 104 = .ok (.iaload, 1) := by decide +kernel
theorem dX12_part_105 : decode cX12_part 105 = .ok (.iload_n 3, 1) := by decide +kernel
theorem dX12_part_106 : decode cX12_part 106 = .ok (.if_icmp .ne 7, 3) := by decide +kernel
theorem dX12_part_109 : decode cX12_part 109 = .ok (.iconst 1, 1) := by decide +kernel
theorem dX12_part_110 : decode cX12_part 110 = .ok (.goto 4, 3) := by decide +kernel
theorem dX12_part_113 : decode cX12_part 113 = .ok (.iconst 0, 1) := by decide +kernel
theorem dX12_part_114 : decode cX12_part 114 = .ok (.iadd, 1) := by decide +kernel
theorem dX12_part_115 : decode cX12_part 115 = .ok (.istore 6, 2) := by decide +kernel
theorem dX12_part_117 : decode cX12_part 117 = .ok (.iinc 7 1, 3) := by decide +kernel
theorem dX12_part_120 : decode cX12_part 120 = .ok (.goto (-44), 3) := by decide +kernel
theorem dX12_part_123 : decode cX12_part 123 = .ok (.aload_n 0, 1) := by decide +kernel
theorem dX12_part_124 : decode cX12_part 124 = .ok (.getfield 19, 3) := by decide +kernel
theorem dX12_part_127 : decode cX12_part 127 = .ok (.bipush 10, 2) := by decide +kernel
theorem dX12_part_129 : decode cX12_part 129 = .ok (.iload 6, 2) := by decide +kernel
theorem dX12_part_131 : decode cX12_part 131 = .ok (.iastore, 1) := by decide +kernel
theorem dX12_part_132 : decode cX12_part 132 = .ok (.aload_n 0, 1) := by decide +kernel
theorem dX12_part_133 : decode cX12_part 133 = .ok (.getfield 22, 3) := by decide +kernel
theorem dX12_part_136 : decode cX12_part 136 = .ok (.bipush 10, 2) := by decide +kernel
theorem dX12_part_138 : decode cX12_part 138 = .ok (.aload_n 0, 1) := by decide +kernel
theorem dX12_part_139 : decode cX12_part 139 = .ok (.getfield 22, 3) := by decide +kernel
theorem dX12_part_142 : decode cX12_part 142 = .ok (.iload_n 2, 1) := by decide +kernel
theorem dX12_part_143 : decode cX12_part 143 = .ok (.iaload, 1) := by decide +kernel
theorem dX12_part_144 : decode cX12_part 144 = .ok (.iastore, 1) := by decide +kernel
theorem dX12_part_145 : decode cX12_part 145 = .ok (.iconst 0, 1) := by decide +kernel
theorem dX12_part_146 : decode cX12_part 146 = .ok (.istore 7, 2) := by decide +kernel
theorem dX12_part_148 : decode cX12_part 148 = .ok (.iload 7, 2) := by decide +kernel
theorem dX12_part_150 : decode cX12_part 150 = .ok (.aload_n 0, 1) := by decide +kernel
theorem dX12_part_151 : decode cX12_part 151 = .ok (.getfield 22, 3) := by decide +kernel
theorem dX12_part_154 : decode cX12_part 154 = .ok (.iload_n 2, 1) := by decide +kernel
theorem dX12_part_155 : decode cX12_part 155 = .ok (.iaload, 1) := by decide +kernel
theorem dX12_part_156 : decode cX12_part 156 = .ok (.if_icmp .ge 69, 3) := by decide +kernel
theorem dX12_part_159 : decode cX12_part 159 = .ok (.iconst 0, 1) := by decide +kernel
theorem dX12_part_160 : decode cX12_part 160 = .ok (.istore 8, 2) := by decide +kernel
theorem dX12_part_162 : decode cX12_part 162 = .ok (.iload 8, 2) := by decide +kernel
theorem dX12_part_164 : decode cX12_part 164 = .ok (.aload_n 0, 1) := by decide +kernel
theorem dX12_part_165 : decode cX12_part 165 = .ok (.getfield 19, 3) := by decide +kernel
theorem dX12_part_168 : decode cX12_part 168 = .ok (.iload_n 2, 1) := by decide +kernel
theorem dX12_part_169 : decode cX12_part 169 = .ok (.iaload, 1) := by decide +kernel
theorem dX12_part_170 : decode cX12_part 170 = .ok (.if_icmp .ge 49, 3) := by decide +kernel
theorem dX12_part_173 : decode cX12_part 173 = .ok (.aload_n 0, 1) := by decide +kernel
theorem dX12_part_174 : decode cX12_part 174 = .ok (.getfield 35, 3) := by decide +kernel
theorem dX12_part_177 : decode cX12_part 177 = .ok (.iload 8, 2) := by decide +kernel
theorem dX12_part_179 : decode cX12_part 179 = .ok (.iaload, 1) := by decide +kernel
theorem dX12_part_180 : decode cX12_part 180 = .ok (.iload_n 3, 1) := by decide +kernel
theorem dX12_part_181 : decode cX12_part 181 = .ok (.if_icmp .ne 32, 3) := by decide +kernel
theorem dX12_part_184 : decode cX12_part 184 = .ok (.aload_n 0, 1) := by decide +kernel
theorem dX12_part_185 : decode cX12_part 185 = .ok (.bipush 10, 2) := by decide +kernel
theorem dX12_part_187 : decode cX12_part 187 = .ok (.iload 7, 2) := by decide +kernel
theorem dX12_part_189 : decode cX12_part 189 = .ok (.aload_n 0, 1) := by decide +kernel
theorem dX12_part_190 : decode cX12_part 190 = .ok (.getfield 38, 3) := by decide +kernel
theorem dX12_part_193 : decode cX12_part 193 = .ok (.iload 8, 2) := by decide +kernel
theorem dX12_part_195 : decode cX12_part 195 = .ok (.iaload, 1) := by decide +kernel
theorem dX12_part_196 : decode cX12_part 196 = .ok (.aload_n 0, 1) := by decide +kernel
theorem dX12_part_197 : decode cX12_part 197 = .ok (.getfield 38, 3) := by decide +kernel
theorem dX12_part_200 : decode cX12_part 200 = .ok (.aload_n 0, 1) := by decide +kernel
theorem dX12_part_201 : decode cX12_part 201 = .ok (.iload_n 2, 1) := by decide +kernel
theorem dX12_part_202 : decode cX12_part 202 = .ok (.iload 7, 2) := by decide +kernel
theorem dX12_part_204 : decode cX12_part 204 = .ok (.iload 8, 2) := by decide +kernel
theorem dX12_part_206 : decode cX12_part 206 = .ok (.invokevirtual 105, 3) := by decide +kernel
theorem dX12_part_209 : decode cX12_part 209 = .ok (.iaload, 1) := by decide +kernel
theorem dX12_part_210 : decode cX12_part 210 = .ok (.invokevirtual 127, 3) := by decide +kernel
theorem dX12_part_213 : decode cX12_part 213 = .ok (.iinc 8 1, 3) := by decide +kernel
theorem dX12_part_216 : decode cX12_part 216 = .ok (.goto (-54), 3) := by decide +kernel
theorem dX12_part_219 : decode cX12_part 219 = .ok (.iinc 7 1, 3) := by decide +kernel
theorem dX12_part_222 : decode cX12_part 222 = .ok (.goto (-74), 3) := by decide +kernel
theorem dX12_part_225 : decode cX12_part 225 = .ok (.aload_n 0, 1) := by decide +kernel
theorem dX12_part_226 : decode cX12_part 226 = .ok (.iload_n 1, 1) := by decide +kernel
theorem dX12_part_227 : decode cX12_part 227 = .ok (.invokevirtual 131, 3) := by decide +kernel
theorem dX12_part_230 : decode cX12_part 230 = .ok (.ireturn, 1) := by decide +kernel
theorem dX12_rename_0 : decode cX12_rename 0 = .ok (.aload_n 0, 1) := by decide +kernel
theorem dX12_rename_1 : decode cX12_rename 1 = .ok (.getfield 19, 3) := by decide +kernel
theorem dX12_rename_4 : decode cX12_rename 4 = .ok (.iload_n 2, 1) := by decide +kernel
theorem dX12_rename_5 : decode cX12_rename 5 = .ok (.iaload, 1) := by decide +kernel
theorem dX12_rename_6 : decode cX12_rename 6 = .ok (.istore 4, 2) := by decide +kernel
theorem dX12_rename_8 : decode cX12_rename 8 = .ok (.iconst 0, 1) := by decide +kernel
theorem dX12_rename_9 : decode cX12_rename 9 = .ok (.istore 5, 2) := by decide +kernel
theorem dX12_rename_11 : decode cX12_rename 11 = .ok (.iload 5, 2) := by decide +kernel
theorem dX12_rename_13 : decode cX12_rename 13 = .ok (.iload 4, 2) := by decide +kernel
theorem dX12_rename_15 : decode cX12_rename 15 = .ok (.if_icmp .ge 17, 3) := by decide +kernel
theorem dX12_rename_18 : decode cX12_rename 18 = .ok (.aload_n 0, 1) := by decide +kernel
theorem dX12_rename_19 : decode cX12_rename 19 = .ok (.getfield 38, 3) := by decide +kernel
theorem dX12_rename_22 : decode cX12_rename 22 = .ok (.iload 5, 2) := by decide +kernel
theorem dX12_rename_24 : decode cX12_rename 24 = .ok (.iconst (-1), 1) := by decide +kernel
theorem dX12_rename_25 : decode cX12_rename 25 = .ok (.iastore, 1) := by decide +kernel
theorem dX12_rename_26 : decode cX12_rename 26 = .ok (.iinc 5 1, 3) := by decide +kernel
theorem dX12_rename_29 : decode cX12_rename 29 = .ok (.goto (-18), 3) := by decide +kernel
theorem dX12_rename_32 : decode cX12_rename 32 = .ok (.aload_n 0, 1) := by decide +kernel
theorem dX12_rename_33 : decode cX12_rename 33 = .ok (.getfield 38, 3) := by decide +kernel
theorem dX12_rename_36 : decode cX12_rename 36 = .ok (.iload_n 3, 1) := by decide +kernel
theorem dX12_rename_37 : decode cX12_rename 37 = .ok (.iconst 0, 1) := by decide +kernel
theorem dX12_rename_38 : decode cX12_rename 38 = .ok (.iastore, 1) := by decide +kernel
theorem dX12_rename_39 : decode cX12_rename 39 = .ok (.aload_n 0, 1) := by decide +kernel
theorem dX12_rename_40 : decode cX12_rename 40 = .ok (.getfield 41, 3) := by decide +kernel
theorem dX12_rename_43 : decode cX12_rename 43 = .ok (.iconst 0, 1) := by decide +kernel
theorem dX12_rename_44 : decode cX12_rename 44 = .ok (.iload_n 3, 1) := by decide +kernel
theorem dX12_rename_45 : decode cX12_rename 45 = .ok (.iastore, 1) := by decide +kernel
theorem dX12_rename_46 : decode cX12_rename 46 = .ok (.iconst 1, 1) := by decide +kernel
theorem dX12_rename_47 : decode cX12_rename 47 = .ok (.istore 5, 2) := by decide +kernel
theorem dX12_rename_49 : decode cX12_rename 49 = .ok (.iconst 0, 1) := by decide +kernel
theorem dX12_rename_50 : decode cX12_rename 50 = .ok (.istore 6, 2) := by decide +kernel
theorem dX12_rename_52 : decode cX12_rename 52 = .ok (.iload 6, 2) := by decide +kernel
theorem dX12_rename_54 : decode cX12_rename 54 = .ok (.iload 5, 2) := by decide +kernel
theorem dX12_rename_56 : decode cX12_rename 56 = .ok (.if_icmp .ge 76, 3) := by decide +kernel
theorem dX12_rename_59 : decode cX12_rename 59 = .ok (.iconst 0, 1) := by decide +kernel
theorem dX12_rename_60 : decode cX12_rename 60 = .ok (.istore 7, 2) := by decide +kernel
theorem dX12_rename_62 : decode cX12_rename 62 = .ok (.iload 7, 2) := by decide +kernel
theorem dX12_rename_64 : decode cX12_rename 64 = .ok (.aload_n 0, 1) := by decide +kernel
theorem dX12_rename_65 : decode cX12_rename 65 = .ok (.getfield 22, 3) := by decide +kernel
theorem dX12_rename_68 : decode cX12_rename 68 = .ok (.iload_n 2, 1) := by decide +kernel
theorem dX12_rename_69 : decode cX12_rename 69 = .ok (.iaload, 1) := by decide +kernel
theorem dX12_rename_70 : decode cX12_rename 70 = .ok (.if_icmp .ge 56, 3) := by decide +kernel
theorem dX12_rename_73 : decode cX12_rename 73 = .ok (.aload_n 0, 1) := by decide +kernel
theorem dX12_rename_74 : decode cX12_rename 74 = .ok (.iload_n 2, 1) := by decide +kernel
theorem dX12_rename_75 : decode cX12_rename 75 = .ok (.iload 7, 2) := by decide +kernel
theorem dX12_rename_77 : decode cX12_rename 77 = .ok (.aload_n 0, 1) := by decide +kernel
theorem dX12_rename_78 : decode cX12_rename 78 = .ok (.getfield 41, 3) := by decide +kernel
theorem dX12_rename_81 : decode cX12_rename 81 = .ok (.iload 6, 2) := by decide +kernel
theorem dX12_rename_83 : decode cX12_rename 83 = .ok (.iaload, 1) := by decide +kernel
theorem dX12_rename_84 : decode cX12_rename 84 = .ok (.invokevirtual 105, 3) := by decide +kernel
theorem dX12_rename_87 : decode cX12_rename 87 = .ok (.istore 8, 2) := by decide +kernel
theorem dX12_rename_89 : decode cX12_rename 89 = .ok (.aload_n 0, 1) := by decide +kernel
theorem dX12_rename_90 : decode cX12_rename 90 = .ok (.getfield 38, 3) := by decide +kernel
theorem dX12_rename_93 : decode cX12_rename 93 = .ok (.iload 8, 2) := by decide +kernel
theorem dX12_rename_95 : decode cX12_rename 95 = .ok (.iaload, 1) := by decide +kernel
theorem dX12_rename_96 : decode cX12_rename 96 = .ok (.ifCond .ge 24, 3) := by decide +kernel
theorem dX12_rename_99 : decode cX12_rename 99 = .ok (.aload_n 0, 1) := by decide +kernel
theorem dX12_rename_100 : decode cX12_rename 100 = .ok (.getfield 38, 3) := by decide +kernel
theorem dX12_rename_103 : decode cX12_rename 103 = .ok (.iload 8, 2) := by decide +kernel
theorem dX12_rename_105 : decode cX12_rename 105 = .ok (.iload 5, 2) := by decide +kernel
theorem dX12_rename_107 : decode cX12_rename 107 = .ok (.iastore, 1) := by decide +kernel
theorem dX12_rename_108 : decode cX12_rename 108 = .ok (.aload_n 0, 1) := by decide +kernel
theorem dX12_rename_109 : decode cX12_rename 109 = .ok (.getfield 41, 3) := by decide +kernel
theorem dX12_rename_112 : decode cX12_rename 112 = .ok (.iload 5, 2) := by decide +kernel
theorem dX12_rename_114 : decode cX12_rename 114 = .ok (.iload 8, 2) := by decide +kernel
theorem dX12_rename_116 : decode cX12_rename 116 = .ok (.iastore, 1) := by decide +kernel
theorem dX12_rename_117 : decode cX12_rename 117 = .ok (.iinc 5 1, 3) := by decide +kernel
theorem dX12_rename_120 : decode cX12_rename 120 = .ok (.iinc 7 1, 3) := by decide +kernel
theorem dX12_rename_123 : decode cX12_rename 123 = .ok (.goto (-61), 3) := by decide +kernel
theorem dX12_rename_126 : decode cX12_rename 126 = .ok (.iinc 6 1, 3) := by decide +kernel
theorem dX12_rename_129 : decode cX12_rename 129 = .ok (.goto (-77), 3) := by decide +kernel
theorem dX12_rename_132 : decode cX12_rename 132 = .ok (.aload_n 0, 1) := by decide +kernel
theorem dX12_rename_133 : decode cX12_rename 133 = .ok (.getfield 19, 3) := by decide +kernel
theorem dX12_rename_136 : decode cX12_rename 136 = .ok (.iload_n 1, 1) := by decide +kernel
theorem dX12_rename_137 : decode cX12_rename 137 = .ok (.iload 4, 2) := by decide +kernel
theorem dX12_rename_139 : decode cX12_rename 139 = .ok (.iastore, 1) := by decide +kernel
theorem dX12_rename_140 : decode cX12_rename 140 = .ok (.aload_n 0, 1) := by decide +kernel
theorem dX12_rename_141 : decode cX12_rename 141 = .ok (.getfield 22, 3) := by decide +kernel
theorem dX12_rename_144 : decode cX12_rename 144 = .ok (.iload_n 1, 1) := by decide +kernel
theorem dX12_rename_145 : decode cX12_rename 145 = .ok (.aload_n 0, 1) := by decide +kernel
theorem dX12_rename_146 : decode cX12_rename 146 = .ok (.getfield 22, 3) := by decide +kernel
theorem dX12_rename_149 : decode cX12_rename 149 = .ok (.iload_n 2, 1) := by decide +kernel
theorem dX12_rename_150 : decode cX12_rename 150 = .ok (.iaload, 1) := by decide +kernel
theorem dX12_rename_151 : decode cX12_rename 151 = .ok (.iastore, 1) := by decide +kernel
theorem dX12_rename_152 : decode cX12_rename 152 = .ok (.iconst 0, 1) := by decide +kernel
theorem dX12_rename_153 : decode cX12_rename 153 = .ok (.istore 6, 2) := by decide +kernel
theorem dX12_rename_155 : decode cX12_rename 155 = .ok (.iload 6, 2) := by decide +kernel
theorem dX12_rename_157 : decode cX12_rename 157 = .ok (.aload_n 0, 1) := by decide +kernel
theorem dX12_rename_158 : decode cX12_rename 158 = .ok (.getfield 22, 3) := by decide +kernel
theorem dX12_rename_161 : decode cX12_rename 161 = .ok (.iload_n 2, 1) := by decide +kernel
theorem dX12_rename_162 : decode cX12_rename 162 = .ok (.iaload, 1) := by decide +kernel
theorem dX12_rename_163 : decode cX12_rename 163 = .ok (.if_icmp .ge 53, 3) := by decide +kernel
theorem dX12_rename_166 : decode cX12_rename 166 = .ok (.iconst 0, 1) := by decide +kernel
theorem dX12_rename_167 : decode cX12_rename 167 = .ok (.istore 7, 2) := by decide +kernel
theorem dX12_rename_169 : decode cX12_rename 169 = .ok (.iload 7, 2) := by decide +kernel
theorem dX12_rename_171 : decode cX12_rename 171 = .ok (.iload 4, 2) := by decide +kernel
theorem dX12_rename_173 : decode cX12_rename 173 = .ok (.if_icmp .ge 37, 3) := by decide +kernel
theorem dX12_rename_176 : decode cX12_rename 176 = .ok (.aload_n 0, 1) := by decide +kernel
theorem dX12_rename_177 : decode cX12_rename 177 = .ok (.iload_n 1, 1) := by decide +kernel
theorem dX12_rename_178 : decode cX12_rename 178 = .ok (.iload 6, 2) := by decide +kernel
theorem dX12_rename_180 : decode cX12_rename 180 = .ok (.aload_n 0, 1) := by decide +kernel
theorem dX12_rename_181 : decode cX12_rename 181 = .ok (.getfield 38, 3) := by decide +kernel
theorem dX12_rename_184 : decode cX12_rename 184 = .ok (.iload 7, 2) := by decide +kernel
theorem dX12_rename_186 : decode cX12_rename 186 = .ok (.iaload, 1) := by decide +kernel
theorem dX12_rename_187 : decode cX12_rename 187 = .ok (.aload_n 0, 1) := by decide +kernel
theorem dX12_rename_188 : decode cX12_rename 188 = .ok (.getfield 38, 3) := by decide +kernel
theorem dX12_rename_191 : decode cX12_rename 191 = .ok (.aload_n 0, 1) := by decide +kernel
theorem dX12_rename_192 : decode cX12_rename 192 = .ok (.iload_n 2, 1) := by decide +kernel
theorem dX12_rename_193 : decode cX12_rename 193 = .ok (.iload 6, 2) := by decide +kernel
theorem dX12_rename_195 : decode cX12_rename 195 = .ok (.iload 7, 2) := by decide +kernel
theorem dX12_rename_197 : decode cX12_rename 197 = .ok (.invokevirtual 105, 3) := by decide +kernel
theorem dX12_rename_200 : decode cX12_rename 200 = .ok (.iaload, 1) := by decide +kernel
theorem dX12_rename_201 : decode cX12_rename 201 = .ok (.invokevirtual 127, 3) := by decide +kernel
theorem dX12_rename_204 : decode cX12_rename 204 = .ok (.iinc 7 1, 3) := by decide +kernel
theorem dX12_rename_207 : decode cX12_rename 207 = .ok (.goto (-38), 3) := by decide +kernel
theorem dX12_rename_210 : decode cX12_rename 210 = .ok (.iinc 6 1, 3) := by decide +kernel
theorem dX12_rename_213 : decode cX12_rename 213 = .ok (.goto (-58), 3) := by decide +kernel
theorem dX12_rename_216 : decode cX12_rename 216 = .ok (.return_, 1) := by decide +kernel
theorem dX12_compare_0 : decode cX12_compare 0 = .ok (.iconst 0, 1) := by decide +kernel
theorem dX12_compare_1 : decode cX12_compare 1 = .ok (.istore_n 3, 1) := by decide +kernel
theorem dX12_compare_2 : decode cX12_compare 2 = .ok (.iload_n 3, 1) := by decide +kernel
theorem dX12_compare_3 : decode cX12_compare 3 = .ok (.aload_n 0, 1) := by decide +kernel
theorem dX12_compare_4 : decode cX12_compare 4 = .ok (.getfield 22, 3) := by decide +kernel
theorem dX12_compare_7 : decode cX12_compare 7 = .ok (.iload_n 1, 1) := by decide +kernel
theorem dX12_compare_8 : decode cX12_compare 8 = .ok (.iaload, 1) := by decide +kernel
theorem dX12_compare_9 : decode cX12_compare 9 = .ok (.if_icmp .ge 66, 3) := by decide +kernel
theorem dX12_compare_12 : decode cX12_compare 12 = .ok (.iconst 0, 1) := by decide +kernel
theorem dX12_compare_13 : decode cX12_compare 13 = .ok (.istore 4, 2) := by decide +kernel
theorem dX12_compare_15 : decode cX12_compare 15 = .ok (.iload 4, 2) := by decide +kernel
theorem dX12_compare_17 : decode cX12_compare 17 = .ok (.aload_n 0, 1) := by decide +kernel
theorem dX12_compare_18 : decode cX12_compare 18 = .ok (.getfield 19, 3) := by decide +kernel
theorem dX12_compare_21 : decode cX12_compare 21 = .ok (.iload_n 1, 1) := by decide +kernel
theorem dX12_compare_22 : decode cX12_compare 22 = .ok (.iaload, 1) := by decide +kernel
theorem dX12_compare_23 : decode cX12_compare 23 = .ok (.if_icmp .ge 46, 3) := by decide +kernel
theorem dX12_compare_26 : decode cX12_compare 26 = .ok (.aload_n 0, 1) := by decide +kernel
theorem dX12_compare_27 : decode cX12_compare 27 = .ok (.iload_n 1, 1) := by decide +kernel
theorem dX12_compare_28 : decode cX12_compare 28 = .ok (.iload_n 3, 1) := by decide +kernel
theorem dX12_compare_29 : decode cX12_compare 29 = .ok (.iload 4, 2) := by decide +kernel
theorem dX12_compare_31 : decode cX12_compare 31 = .ok (.invokevirtual 105, 3) := by decide +kernel
theorem dX12_compare_34 : decode cX12_compare 34 = .ok (.aload_n 0, 1) := by decide +kernel
theorem dX12_compare_35 : decode cX12_compare 35 = .ok (.iload_n 2, 1) := by decide +kernel
theorem dX12_compare_36 : decode cX12_compare 36 = .ok (.iload_n 3, 1) := by decide +kernel
theorem dX12_compare_37 : decode cX12_compare 37 = .ok (.iload 4, 2) := by decide +kernel
theorem dX12_compare_39 : decode cX12_compare 39 = .ok (.invokevirtual 105, 3) := by decide +kernel
theorem dX12_compare_42 : decode cX12_compare 42 = .ok (.if_icmp .eq 21, 3) := by decide +kernel
theorem dX12_compare_45 : decode cX12_compare 45 = .ok (.aload_n 0, 1) := by decide +kernel
theorem dX12_compare_46 : decode cX12_compare 46 = .ok (.iload_n 1, 1) := by decide +kernel
theorem dX12_compare_47 : decode cX12_compare 47 = .ok (.iload_n 3, 1) := by decide +kernel
theorem dX12_compare_48 : decode cX12_compare 48 = .ok (.iload 4, 2) := by decide +kernel
theorem dX12_compare_50 : decode cX12_compare 50 = .ok (.invokevirtual 105, 3) := by decide +kernel
theorem dX12_compare_53 : decode cX12_compare 53 = .ok (.aload_n 0, 1) := by decide +kernel
theorem dX12_compare_54 : decode cX12_compare 54 = .ok (.iload_n 2, 1) := by decide +kernel
theorem dX12_compare_55 : decode cX12_compare 55 = .ok (.iload_n 3, 1) := by decide +kernel
theorem dX12_compare_56 : decode cX12_compare 56 = .ok (.iload 4, 2) := by decide +kernel
theorem dX12_compare_58 : decode cX12_compare 58 = .ok (.invokevirtual 105, 3) := by decide +kernel
theorem dX12_compare_61 : decode cX12_compare 61 = .ok (.isub, 1) := by decide +kernel
theorem dX12_compare_62 : decode cX12_compare 62 = .ok (.ireturn, 1) := by decide +kernel
theorem dX12_compare_63 : decode cX12_compare 63 = .ok (.iinc 4 1, 3) := by decide +kernel
theorem dX12_compare_66 : decode cX12_compare 66 = .ok (.goto (-51), 3) := by decide +kernel
theorem dX12_compare_69 : decode cX12_compare 69 = .ok (.iinc 3 1, 3) := by decide +kernel
theorem dX12_compare_72 : decode cX12_compare 72 = .ok (.goto (-70), 3) := by decide +kernel
theorem dX12_compare_75 : decode cX12_compare 75 = .ok (.iconst 0, 1) := by decide +kernel
theorem dX12_compare_76 : decode cX12_compare 76 = .ok (.ireturn, 1) := by decide +kernel
theorem dX12_least_0 : decode cX12_least 0 = .ok (.iconst 0, 1) := by decide +kernel
theorem dX12_least_1 : decode cX12_least 1 = .ok (.istore_n 3, 1) := by decide +kernel
theorem dX12_least_2 : decode cX12_least 2 = .ok (.iconst 0, 1) := by decide +kernel
theorem dX12_least_3 : decode cX12_least 3 = .ok (.istore 4, 2) := by decide +kernel
theorem dX12_least_5 : decode cX12_least 5 = .ok (.iload 4, 2) := by decide +kernel
theorem dX12_least_7 : decode cX12_least 7 = .ok (.aload_n 0, 1) := by decide +kernel
theorem dX12_least_8 : decode cX12_least 8 = .ok (.getfield 19, 3) := by decide +kernel
theorem dX12_least_11 : decode cX12_least 11 = .ok (.iload_n 2, 1) := by decide +kernel
theorem dX12_least_12 : decode cX12_least 12 = .ok (.iaload, 1) := by decide +kernel
theorem dX12_least_13 : decode cX12_least 13 = .ok (.if_icmp .ge 61, 3) := by decide +kernel
theorem dX12_least_16 : decode cX12_least 16 = .ok (.aload_n 0, 1) := by decide +kernel
theorem dX12_least_17 : decode cX12_least 17 = .ok (.bipush 11, 2) := by decide +kernel
theorem dX12_least_19 : decode cX12_least 19 = .ok (.iload_n 2, 1) := by decide +kernel
theorem dX12_least_20 : decode cX12_least 20 = .ok (.iload 4, 2) := by decide +kernel
theorem dX12_least_22 : decode cX12_least 22 = .ok (.invokevirtual 141, 3) := by decide +kernel
theorem dX12_least_25 : decode cX12_least 25 = .ok (.iload 4, 2) := by decide +kernel
theorem dX12_least_27 : decode cX12_least 27 = .ok (.ifCond .ne 7, 3) := by decide +kernel
theorem dX12_least_30 : decode cX12_least 30 = .ok (.iconst (-1), 1) := by decide +kernel
theorem dX12_least_31 : decode cX12_least 31 = .ok (.goto 10, 3) := by decide +kernel
theorem dX12_least_34 : decode cX12_least 34 = .ok (.aload_n 0, 1) := by decide +kernel
theorem dX12_least_35 : decode cX12_least 35 = .ok (.bipush 11, 2) := by decide +kernel
theorem dX12_least_37 : decode cX12_least 37 = .ok (.iload_n 1, 1) := by decide +kernel
theorem dX12_least_38 : decode cX12_least 38 = .ok (.invokevirtual 145, 3) := by decide +kernel
theorem dX12_least_41 : decode cX12_least 41 = .ok (.istore 5, 2) := by decide +kernel
theorem dX12_least_43 : decode cX12_least 43 = .ok (.iload 5, 2) := by decide +kernel
theorem dX12_least_45 : decode cX12_least 45 = .ok (.ifCond .ge 15, 3) := by decide +kernel
theorem dX12_least_48 : decode cX12_least 48 = .ok (.aload_n 0, 1) := by decide +kernel
theorem dX12_least_49 : decode cX12_least 49 = .ok (.iload_n 1, 1) := by decide +kernel
theorem dX12_least_50 : decode cX12_least 50 = .ok (.bipush 11, 2) := by decide +kernel
theorem dX12_least_52 : decode cX12_least 52 = .ok (.invokevirtual 113, 3) := by decide +kernel
theorem dX12_least_55 : decode cX12_least 55 = .ok (.iconst 1, 1) := by decide +kernel
theorem dX12_least_56 : decode cX12_least 56 = .ok (.istore_n 3, 1) := by decide +kernel
theorem dX12_least_57 : decode cX12_least 57 = .ok (.goto 11, 3) := by decide +kernel
theorem dX12_least_60 : decode cX12_least 60 = .ok (.iload 5, 2) := by decide +kernel
theorem dX12_least_62 : decode cX12_least 62 = .ok (.ifCond .ne 6, 3) := by decide +kernel
theorem dX12_least_65 : decode cX12_least 65 = .ok (.iinc 3 1, 3) := by decide +kernel
theorem dX12_least_68 : decode cX12_least 68 = .ok (.iinc 4 1, 3) := by decide +kernel
theorem dX12_least_71 : decode cX12_least 71 = .ok (.goto (-66), 3) := by decide +kernel
theorem dX12_least_74 : decode cX12_least 74 = .ok (.iload_n 3, 1) := by decide +kernel
theorem dX12_least_75 : decode cX12_least 75 = .ok (.ireturn, 1) := by decide +kernel
theorem dX12_name_0 : decode cX12_name 0 = .ok (.aload_n 0, 1) := by decide +kernel
theorem dX12_name_1 : decode cX12_name 1 = .ok (.iconst 0, 1) := by decide +kernel
theorem dX12_name_2 : decode cX12_name 2 = .ok (.putfield 78, 3) := by decide +kernel
theorem dX12_name_5 : decode cX12_name 5 = .ok (.iload_n 1, 1) := by decide +kernel
theorem dX12_name_6 : decode cX12_name 6 = .ok (.invokestatic 120, 3) := by decide +kernel
theorem dX12_name_9 : decode cX12_name 9 = .ok (.ifCond .eq 10, 3) := by decide +kernel
theorem dX12_name_12 : decode cX12_name 12 = .ok (.iload_n 2, 1) := by decide +kernel
theorem dX12_name_13 : decode cX12_name 13 = .ok (.invokestatic 120, 3) := by decide +kernel
theorem dX12_name_16 : decode cX12_name 16 = .ok (.ifCond .ne 6, 3) := by decide +kernel
theorem dX12_name_19 : decode cX12_name 19 = .ok (.ldc 98, 2) := by decide +kernel
theorem dX12_name_21 : decode cX12_name 21 = .ok (.ireturn, 1) := by decide +kernel
theorem dX12_name_22 : decode cX12_name 22 = .ok (.aload_n 0, 1) := by decide +kernel
theorem dX12_name_23 : decode cX12_name 23 = .ok (.iload_n 2, 1) := by decide +kernel
theorem dX12_name_24 : decode cX12_name 24 = .ok (.iconst 1, 1) := by decide +kernel
theorem dX12_name_25 : decode cX12_name 25 = .ok (.invokevirtual 137, 3) := by decide +kernel
theorem dX12_name_28 : decode cX12_name 28 = .ok (.istore_n 3, 1) := by decide +kernel
theorem dX12_name_29 : decode cX12_name 29 = .ok (.iload_n 3, 1) := by decide +kernel
theorem dX12_name_30 : decode cX12_name 30 = .ok (.ifCond .ge 5, 3) := by decide +kernel
theorem dX12_name_33 : decode cX12_name 33 = .ok (.iload_n 3, 1) := by decide +kernel
theorem dX12_name_34 : decode cX12_name 34 = .ok (.ireturn, 1) := by decide +kernel
theorem dX12_name_35 : decode cX12_name 35 = .ok (.aload_n 0, 1) := by decide +kernel
theorem dX12_name_36 : decode cX12_name 36 = .ok (.bipush 10, 2) := by decide +kernel
theorem dX12_name_38 : decode cX12_name 38 = .ok (.iload_n 2, 1) := by decide +kernel
theorem dX12_name_39 : decode cX12_name 39 = .ok (.invokevirtual 148, 3) := by decide +kernel
theorem dX12_name_42 : decode cX12_name 42 = .ok (.istore 4, 2) := by decide +kernel
theorem dX12_name_44 : decode cX12_name 44 = .ok (.aload_n 0, 1) := by decide +kernel
theorem dX12_name_45 : decode cX12_name 45 = .ok (.iload_n 1, 1) := by decide +kernel
theorem dX12_name_46 : decode cX12_name 46 = .ok (.invokevirtual 131, 3) := by decide +kernel
theorem dX12_name_49 : decode cX12_name 49 = .ok (.ireturn, 1) := by decide +kernel
theorem dX12_blocks_0 : decode cX12_blocks 0 = .ok (.aload_n 0, 1) := by decide +kernel
theorem dX12_blocks_1 : decode cX12_blocks 1 = .ok (.getfield 19, 3) := by decide +kernel
theorem dX12_blocks_4 : decode cX12_blocks 4 = .ok (.iload_n 1, 1) := by decide +kernel
theorem dX12_blocks_5 : decode cX12_blocks 5 = .ok (.iaload, 1) := by decide +kernel
theorem dX12_blocks_6 : decode cX12_blocks 6 = .ok (.istore 4, 2) := by decide +kernel
theorem dX12_blocks_8 : decode cX12_blocks 8 = .ok (.iconst 0, 1) := by decide +kernel
theorem dX12_blocks_9 : decode cX12_blocks 9 = .ok (.istore 5, 2) := by decide +kernel
theorem dX12_blocks_11 : decode cX12_blocks 11 = .ok (.iload 5, 2) := by decide +kernel
theorem dX12_blocks_13 : decode cX12_blocks 13 = .ok (.iload 4, 2) := by decide +kernel
theorem dX12_blocks_15 : decode cX12_blocks 15 = .ok (.if_icmp .ge 18, 3) := by decide +kernel
theorem dX12_blocks_18 : decode cX12_blocks 18 = .ok (.aload_n 0, 1) := by decide +kernel
theorem dX12_blocks_19 : decode cX12_blocks 19 = .ok (.getfield 44, 3) := by decide +kernel
theorem dX12_blocks_22 : decode cX12_blocks 22 = .ok (.iload 5, 2) := by decide +kernel
theorem dX12_blocks_24 : decode cX12_blocks 24 = .ok (.iload 5, 2) := by decide +kernel
theorem dX12_blocks_26 : decode cX12_blocks 26 = .ok (.iastore, 1) := by decide +kernel
theorem dX12_blocks_27 : decode cX12_blocks 27 = .ok (.iinc 5 1, 3) := by decide +kernel
theorem dX12_blocks_30 : decode cX12_blocks 30 = .ok (.goto (-19), 3) := by decide +kernel
theorem dX12_blocks_33 : decode cX12_blocks 33 = .ok (.aload_n 0, 1) := by decide +kernel
theorem dX12_blocks_34 : decode cX12_blocks 34 = .ok (.iload 4, 2) := by decide +kernel
theorem dX12_blocks_36 : decode cX12_blocks 36 = .ok (.iload_n 2, 1) := by decide +kernel
theorem dX12_blocks_37 : decode cX12_blocks 37 = .ok (.iload_n 3, 1) := by decide +kernel
theorem dX12_blocks_38 : decode cX12_blocks 38 = .ok (.invokevirtual 151, 3) := by decide +kernel
theorem dX12_blocks_41 : decode cX12_blocks 41 = .ok (.iconst 1, 1) := by decide +kernel
theorem dX12_blocks_42 : decode cX12_blocks 42 = .ok (.istore 5, 2) := by decide +kernel
theorem dX12_blocks_44 : decode cX12_blocks 44 = .ok (.iload 5, 2) := by decide +kernel
theorem dX12_blocks_46 : decode cX12_blocks 46 = .ok (.ifCond .eq 136, 3) := by decide +kernel
theorem dX12_blocks_49 : decode cX12_blocks 49 = .ok (.iconst 0, 1) := by decide +kernel
theorem dX12_blocks_50 : decode cX12_blocks 50 = .ok (.istore 5, 2) := by decide +kernel
theorem dX12_blocks_52 : decode cX12_blocks 52 = .ok (.iconst 0, 1) := by decide +kernel
theorem dX12_blocks_53 : decode cX12_blocks 53 = .ok (.istore 6, 2) := by decide +kernel
theorem dX12_blocks_55 : decode cX12_blocks 55 = .ok (.iload 6, 2) := by decide +kernel
theorem dX12_blocks_57 : decode cX12_blocks 57 = .ok (.aload_n 0, 1) := by decide +kernel
theorem dX12_blocks_58 : decode cX12_blocks 58 = .ok (.getfield 22, 3) := by decide +kernel
theorem dX12_blocks_61 : decode cX12_blocks 61 = .ok (.iload_n 1, 1) := by decide +kernel
theorem dX12_blocks_62 : decode cX12_blocks 62 = .ok (.iaload, 1) := by decide +kernel
theorem dX12_blocks_63 : decode cX12_blocks 63 = .ok (.if_icmp .ge 116, 3) := by decide +kernel
theorem dX12_blocks_66 : decode cX12_blocks 66 = .ok (.iconst 0, 1) := by decide +kernel
theorem dX12_blocks_67 : decode cX12_blocks 67 = .ok (.istore 7, 2) := by decide +kernel
theorem dX12_blocks_69 : decode cX12_blocks 69 = .ok (.iload 7, 2) := by decide +kernel
theorem dX12_blocks_71 : decode cX12_blocks 71 = .ok (.iload 4, 2) := by decide +kernel
theorem dX12_blocks_73 : decode cX12_blocks 73 = .ok (.if_icmp .ge 100, 3) := by decide +kernel
theorem dX12_blocks_76 : decode cX12_blocks 76 = .ok (.iconst 0, 1) := by decide +kernel
theorem dX12_blocks_77 : decode cX12_blocks 77 = .ok (.istore 8, 2) := by decide +kernel
theorem dX12_blocks_79 : decode cX12_blocks 79 = .ok (.iload 8, 2) := by decide +kernel
theorem dX12_blocks_81 : decode cX12_blocks 81 = .ok (.iload 7, 2) := by decide +kernel
theorem dX12_blocks_83 : decode cX12_blocks 83 = .ok (.if_icmp .ge 84, 3) := by decide +kernel
theorem dX12_blocks_86 : decode cX12_blocks 86 = .ok (.aload_n 0, 1) := by decide +kernel
theorem dX12_blocks_87 : decode cX12_blocks 87 = .ok (.getfield 44, 3) := by decide +kernel
theorem dX12_blocks_90 : decode cX12_blocks 90 = .ok (.iload 7, 2) := by decide +kernel
theorem dX12_blocks_92 : decode cX12_blocks 92 = .ok (.iaload, 1) := by decide +kernel
theorem dX12_blocks_93 : decode cX12_blocks 93 = .ok (.aload_n 0, 1) := by decide +kernel
theorem dX12_blocks_94 : decode cX12_blocks 94 = .ok (.getfield 44, 3) := by decide +kernel
theorem dX12_blocks_97 : decode cX12_blocks 97 = .ok (.iload 8, 2) := by decide +kernel
theorem dX12_blocks_99 : decode cX12_blocks 99 = .ok (.iaload, 1) := by decide +kernel
theorem dX12_blocks_100 : decode cX12_blocks 100 = .ok (.if_icmp .ne 61, 3) := by decide +kernel
theorem dX12_blocks_103 : decode cX12_blocks 103 = .ok (.aload_n 0, 1) := by decide +kernel
theorem dX12_blocks_104 : decode cX12_blocks 104 = .ok (.getfield 44, 3) := by decide +kernel
theorem dX12_blocks_107 : decode cX12_blocks 107 = .ok (.aload_n 0, 1) := by decide +kernel
theorem dX12_blocks_108 : decode cX12_blocks 108 = .ok (.iload_n 1, 1) := by decide +kernel
theorem dX12_blocks_109 : decode cX12_blocks 109 = .ok (.iload 6, 2) := by decide +kernel
theorem dX12_blocks_111 : decode cX12_blocks 111 = .ok (.iload 7, 2) := by decide +kernel
theorem dX12_blocks_113 : decode cX12_blocks 113 = .ok (.invokevirtual 105, 3) := by decide +kernel
theorem dX12_blocks_116 : decode cX12_blocks 116 = .ok (.iaload, 1) := by decide +kernel
theorem dX12_blocks_117 : decode cX12_blocks 117 = .ok (.aload_n 0, 1) := by decide +kernel
theorem dX12_blocks_118 : decode cX12_blocks 118 = .ok (.getfield 44, 3) := by decide +kernel
theorem dX12_blocks_121 : decode cX12_blocks 121 = .ok (.aload_n 0, 1) := by decide +kernel
theorem dX12_blocks_122 : decode cX12_blocks 122 = .ok (.iload_n 1, 1) := by decide +kernel
theorem dX12_blocks_123 : decode cX12_blocks 123 = .ok (.iload 6, 2) := by decide +kernel
theorem dX12_blocks_125 : decode cX12_blocks 125 = .ok (.iload 8, 2) := by decide +kernel
theorem dX12_blocks_127 : decode cX12_blocks 127 = .ok (.invokevirtual 105, 3) := by decide +kernel
theorem dX12_blocks_130 : decode cX12_blocks 130 = .ok (.iaload, 1) := by decide +kernel
theorem dX12_blocks_131 : decode cX12_blocks 131 = .ok (.if_icmp .eq 30, 3) := by decide +kernel
theorem dX12_blocks_134 : decode cX12_blocks 134 = .ok (.aload_n 0, 1) := by decide +kernel
theorem dX12_blocks_135 : decode cX12_blocks 135 = .ok (.iload 4, 2) := by decide +kernel
theorem dX12_blocks_137 : decode cX12_blocks 137 = .ok (.aload_n 0, 1) := by decide +kernel
theorem dX12_blocks_138 : decode cX12_blocks 138 = .ok (.iload_n 1, 1) := by decide +kernel
theorem dX12_blocks_139 : decode cX12_blocks 139 = .ok (.iload 6, 2) := by decide +kernel
theorem dX12_blocks_141 : decode cX12_blocks 141 = .ok (.iload 7, 2) := by decide +kernel
theorem dX12_blocks_143 : decode cX12_blocks 143 = .ok (.invokevirtual 105, 3) := by decide +kernel
theorem dX12_blocks_146 : decode cX12_blocks 146 = .ok (.aload_n 0, 1) := by decide +kernel
theorem dX12_blocks_147 : decode cX12_blocks 147 = .ok (.iload_n 1, 1) := by decide +kernel
theorem dX12_blocks_148 : decode cX12_blocks 148 = .ok (.iload 6, 2) := by decide +kernel
theorem dX12_blocks_150 : decode cX12_blocks 150 = .ok (.iload 8, 2) := by decide +kernel
theorem dX12_blocks_152 : decode cX12_blocks 152 = .ok (.invokevirtual 105, 3) := by decide +kernel
theorem dX12_blocks_155 : decode cX12_blocks 155 = .ok (.invokevirtual 151, 3) := by decide +kernel
theorem dX12_blocks_158 : decode cX12_blocks 158 = .ok (.iconst 1, 1) := by decide +kernel
theorem dX12_blocks_159 : decode cX12_blocks 159 = .ok (.istore 5, 2) := by decide +kernel
theorem dX12_blocks_161 : decode cX12_blocks 161 = .ok (.iinc 8 1, 3) := by decide +kernel
theorem dX12_blocks_164 : decode cX12_blocks 164 = .ok (.goto (-85), 3) := by decide +kernel
theorem dX12_blocks_167 : decode cX12_blocks 167 = .ok (.iinc 7 1, 3) := by decide +kernel
theorem dX12_blocks_170 : decode cX12_blocks 170 = .ok (.goto (-101), 3) := by decide +kernel
theorem dX12_blocks_173 : decode cX12_blocks 173 = .ok (.iinc 6 1, 3) := by decide +kernel
theorem dX12_blocks_176 : decode cX12_blocks 176 = .ok (.goto (-121), 3) := by decide +kernel
theorem dX12_blocks_179 : decode cX12_blocks 179 = .ok (.goto (-135), 3) := by decide +kernel
theorem dX12_blocks_182 : decode cX12_blocks 182 = .ok (.iconst 0, 1) := by decide +kernel
theorem dX12_blocks_183 : decode cX12_blocks 183 = .ok (.istore 6, 2) := by decide +kernel
theorem dX12_blocks_185 : decode cX12_blocks 185 = .ok (.iconst 0, 1) := by decide +kernel
theorem dX12_blocks_186 : decode cX12_blocks 186 = .ok (.istore 7, 2) := by decide +kernel
theorem dX12_blocks_188 : decode cX12_blocks 188 = .ok (.iload 7, 2) := by decide +kernel
theorem dX12_blocks_190 : decode cX12_blocks 190 = .ok (.iload 4, 2) := by decide +kernel
theorem dX12_blocks_192 : decode cX12_blocks 192 = .ok (.if_icmp .ge 33, 3) := by decide +kernel
theorem dX12_blocks_195 : decode cX12_blocks 195 = .ok (.aload_n 0, 1) := by decide +kernel
theorem dX12_blocks_196 : decode cX12_blocks 196 = .ok (.getfield 44, 3) := by decide +kernel
theorem dX12_blocks_199 : decode cX12_blocks 199 = .ok (.iload 7, 2) := by decide +kernel
theorem dX12_blocks_201 : decode cX12_blocks 201 = .ok (.iaload, 1) := by decide +kernel
theorem dX12_blocks_202 : decode cX12_blocks 202 = .ok (.iload 7, 2) := by decide +kernel
theorem dX12_blocks_204 : decode cX12_blocks 204 = .ok (.if_icmp .ne 15, 3) := by decide +kernel
theorem dX12_blocks_207 : decode cX12_blocks 207 = .ok (.aload_n 0, 1) := by decide +kernel
theorem dX12_blocks_208 : decode cX12_blocks 208 = .ok (.getfield 38, 3) := by decide +kernel
theorem dX12_blocks_211 : decode cX12_blocks 211 = .ok (.iload 7, 2) := by decide +kernel
theorem dX12_blocks_213 : decode cX12_blocks 213 = .ok (.iload 6, 2) := by decide +kernel
theorem dX12_blocks_215 : decode cX12_blocks 215 = .ok (.iastore, 1) := by decide +kernel
theorem dX12_blocks_216 : decode cX12_blocks 216 = .ok (.iinc 6 1, 3) := by decide +kernel
theorem dX12_blocks_219 : decode cX12_blocks 219 = .ok (.iinc 7 1, 3) := by decide +kernel
theorem dX12_blocks_222 : decode cX12_blocks 222 = .ok (.goto (-34), 3) := by decide +kernel
theorem dX12_blocks_225 : decode cX12_blocks 225 = .ok (.iconst 0, 1) := by decide +kernel
theorem dX12_blocks_226 : decode cX12_blocks 226 = .ok (.istore 7, 2) := by decide +kernel
theorem dX12_blocks_228 : decode cX12_blocks 228 = .ok (.iload 7, 2) := by decide +kernel
theorem dX12_blocks_230 : decode cX12_blocks 230 = .ok (.iload 4, 2) := by decide +kernel
theorem dX12_blocks_232 : decode cX12_blocks 232 = .ok (.if_icmp .ge 28, 3) := by decide +kernel
theorem dX12_blocks_235 : decode cX12_blocks 235 = .ok (.aload_n 0, 1) := by decide +kernel
theorem dX12_blocks_236 : decode cX12_blocks 236 = .ok (.getfield 44, 3) := by decide +kernel
theorem dX12_blocks_239 : decode cX12_blocks 239 = .ok (.iload 7, 2) := by decide +kernel
theorem dX12_blocks_241 : decode cX12_blocks 241 = .ok (.aload_n 0, 1) := by decide +kernel
theorem dX12_blocks_242 : decode cX12_blocks 242 = .ok (.getfield 38, 3) := by decide +kernel
theorem dX12_blocks_245 : decode cX12_blocks 245 = .ok (.aload_n 0, 1) := by decide +kernel
theorem dX12_blocks_246 : decode cX12_blocks 246 = .ok (.getfield 44, 3) := by decide +kernel
theorem dX12_blocks_249 : decode cX12_blocks 249 = .ok (.iload 7, 2) := by decide +kernel
theorem dX12_blocks_251 : decode cX12_blocks 251 = .ok (.iaload, 1) := by decide +kernel
theorem dX12_blocks_252 : decode cX12_blocks 252 = .ok (.iaload, 1) := by decide +kernel
theorem dX12_blocks_253 : decode cX12_blocks 253 = .ok (.iastore, 1) := by decide +kernel
theorem dX12_blocks_254 : decode cX12_blocks 254 = .ok (.iinc 7 1, 3) := by decide +kernel
theorem dX12_blocks_257 : decode cX12_blocks 257 = .ok (.goto (-29), 3) := by decide +kernel
theorem dX12_blocks_260 : decode cX12_blocks 260 = .ok (.iload 6, 2) := by decide +kernel
theorem dX12_blocks_262 : decode cX12_blocks 262 = .ok (.ireturn, 1) := by decide +kernel
theorem dX12_merge_0 : decode cX12_merge 0 = .ok (.aload_n 0, 1) := by decide +kernel
theorem dX12_merge_1 : decode cX12_merge 1 = .ok (.getfield 44, 3) := by decide +kernel
theorem dX12_merge_4 : decode cX12_merge 4 = .ok (.iload_n 2, 1) := by decide +kernel
theorem dX12_merge_5 : decode cX12_merge 5 = .ok (.iaload, 1) := by decide +kernel
theorem dX12_merge_6 : decode cX12_merge 6 = .ok (.aload_n 0, 1) := by decide +kernel
theorem dX12_merge_7 : decode cX12_merge 7 = .ok (.getfield 44, 3) := by decide +kernel
theorem dX12_merge_10 : decode cX12_merge 10 = .ok (.iload_n 3, 1) := by decide +kernel
theorem dX12_merge_11 : decode cX12_merge 11 = .ok (.iaload, 1) := by decide +kernel
theorem dX12_merge_12 : decode cX12_merge 12 = .ok (.if_icmp .ge 12, 3) := by decide +kernel
theorem dX12_merge_15 : decode cX12_merge 15 = .ok (.aload_n 0, 1) := by decide +kernel
theorem dX12_merge_16 : decode cX12_merge 16 = .ok (.getfield 44, 3) := by decide +kernel
theorem dX12_merge_19 : decode cX12_merge 19 = .ok (.iload_n 2, 1) := by decide +kernel
theorem dX12_merge_20 : decode cX12_merge 20 = .ok (.iaload, 1) := by decide +kernel
theorem dX12_merge_21 : decode cX12_merge 21 = .ok (.goto 9, 3) := by decide +kernel
theorem dX12_merge_24 : decode cX12_merge 24 = .ok (.aload_n 0, 1) := by decide +kernel
theorem dX12_merge_25 : decode cX12_merge 25 = .ok (.getfield 44, 3) := by decide +kernel
theorem dX12_merge_28 : decode cX12_merge 28 = .ok (.iload_n 3, 1) := by decide +kernel
theorem dX12_merge_29 : decode cX12_merge 29 = .ok (.iaload, 1) := by decide +kernel
theorem dX12_merge_30 : decode cX12_merge 30 = .ok (.istore 4, 2) := by decide +kernel
theorem dX12_merge_32 : decode cX12_merge 32 = .ok (.aload_n 0, 1) := by decide +kernel
theorem dX12_merge_33 : decode cX12_merge 33 = .ok (.getfield 44, 3) := by decide +kernel
theorem dX12_merge_36 : decode cX12_merge 36 = .ok (.iload_n 2, 1) := by decide +kernel
theorem dX12_merge_37 : decode cX12_merge 37 = .ok (.iaload, 1) := by decide +kernel
theorem dX12_merge_38 : decode cX12_merge 38 = .ok (.aload_n 0, 1) := by decide +kernel
theorem dX12_merge_39 : decode cX12_merge 39 = .ok (.getfield 44, 3) := by decide +kernel
theorem dX12_merge_42 : decode cX12_merge 42 = .ok (.iload_n 3, 1) := by decide +kernel
theorem dX12_merge_43 : decode cX12_merge 43 = .ok (.iaload, 1) := by decide +kernel
theorem dX12_merge_44 : decode cX12_merge 44 = .ok (.if_icmp .ge 12, 3) := by decide +kernel
theorem dX12_merge_47 : decode cX12_merge 47 = .ok (.aload_n 0, 1) := by decide +kernel
theorem dX12_merge_48 : decode cX12_merge 48 = .ok (.getfield 44, 3) := by decide +kernel
theorem dX12_merge_51 : decode cX12_merge 51 = .ok (.iload_n 3, 1) := by decide +kernel
theorem dX12_merge_52 : decode cX12_merge 52 = .ok (.iaload, 1) := by decide +kernel
theorem dX12_merge_53 : decode cX12_merge 53 = .ok (.goto 9, 3) := by decide +kernel
theorem dX12_merge_56 : decode cX12_merge 56 = .ok (.aload_n 0, 1) := by decide +kernel
theorem dX12_merge_57 : decode cX12_merge 57 = .ok (.getfield 44, 3) := by decide +kernel
theorem dX12_merge_60 : decode cX12_merge 60 = .ok (.iload_n 2, 1) := by decide +kernel
theorem dX12_merge_61 : decode cX12_merge 61 = .ok (.iaload, 1) := by decide +kernel
theorem dX12_merge_62 : decode cX12_merge 62 = .ok (.istore 5, 2) := by decide +kernel
theorem dX12_merge_64 : decode cX12_merge 64 = .ok (.iconst 0, 1) := by decide +kernel
theorem dX12_merge_65 : decode cX12_merge 65 = .ok (.istore 6, 2) := by decide +kernel
theorem dX12_merge_67 : decode cX12_merge 67 = .ok (.iload 6, 2) := by decide +kernel
theorem dX12_merge_69 : decode cX12_merge 69 = .ok (.iload_n 1, 1) := by decide +kernel
theorem dX12_merge_70 : decode cX12_merge 70 = .ok (.if_icmp .ge 40, 3) := by decide +kernel
theorem dX12_merge_73 : decode cX12_merge 73 = .ok (.aload_n 0, 1) := by decide +kernel
theorem dX12_merge_74 : decode cX12_merge 74 = .ok (.getfield 44, 3) := by decide +kernel
theorem dX12_merge_77 : decode cX12_merge 77 = .ok (.iload 6, 2) := by decide +kernel
theorem dX12_merge_79 : decode cX12_merge 79 = .ok (.aload_n 0, 1) := by decide +kernel
theorem dX12_merge_80 : decode cX12_merge 80 = .ok (.getfield 44, 3) := by decide +kernel
theorem dX12_merge_83 : decode cX12_merge 83 = .ok (.iload 6, 2) := by decide +kernel
theorem dX12_merge_85 : decode cX12_merge 85 = .ok (.iaload, 1) := by decide +kernel
theorem dX12_merge_86 : decode cX12_merge 86 = .ok (.iload 5, 2) := by decide +kernel
theorem dX12_merge_88 : decode cX12_merge 88 = .ok (.if_icmp .ne 8, 3) := by decide +kernel
theorem dX12_merge_91 : decode cX12_merge 91 = .ok (.iload 4, 2) := by decide +kernel
theorem dX12_merge_93 : decode cX12_merge 93 = .ok (.goto 10, 3) := by decide +kernel
theorem dX12_merge_96 : decode cX12_merge 96 = .ok (.aload_n 0, 1) := by decide +kernel
theorem dX12_merge_97 : decode cX12_merge 97 = .ok (.getfield 44, 3) := by decide +kernel
theorem dX12_merge_100 : decode cX12_merge 100 = .ok (.iload 6, 2) := by decide +kernel
theorem dX12_merge_102 : decode cX12_merge 102 = .ok (.iaload, 1) := by decide +kernel
theorem dX12_merge_103 : decode cX12_merge 103 = .ok (.iastore, 1) := by decide +kernel
theorem dX12_merge_104 : decode cX12_merge 104 = .ok (.iinc 6 1, 3) := by decide +kernel
theorem dX12_merge_107 : decode cX12_merge 107 = .ok (.goto (-40), 3) := by decide +kernel
theorem dX12_merge_110 : decode cX12_merge 110 = .ok (.return_, 1) := by decide +kernel
theorem dX12_isSheet_0 : decode cX12_isSheet 0 = .ok (.iload_n 2, 1) := by decide +kernel
theorem dX12_isSheet_1 : decode cX12_isSheet 1 = .ok (.i2l, 1) := by decide +kernel
theorem dX12_isSheet_2 : decode cX12_isSheet 2 = .ok (.lconst 0, 1) := by decide +kernel
theorem dX12_isSheet_3 : decode cX12_isSheet 3 = .ok (.aload_n 0, 1) := by decide +kernel
theorem dX12_isSheet_4 : decode cX12_isSheet 4 = .ok (.getfield 19, 3) := by decide +kernel
theorem dX12_isSheet_7 : decode cX12_isSheet 7 = .ok (.iload_n 1, 1) := by decide +kernel
theorem dX12_isSheet_8 : decode cX12_isSheet 8 = .ok (.iaload, 1) := by decide +kernel
theorem dX12_isSheet_9 : decode cX12_isSheet 9 = .ok (.iconst 1, 1) := by decide +kernel
theorem dX12_isSheet_10 : decode cX12_isSheet 10 = .ok (.isub, 1) := by decide +kernel
theorem dX12_isSheet_11 : decode cX12_isSheet 11 = .ok (.i2l, 1) := by decide +kernel
theorem dX12_isSheet_12 : decode cX12_isSheet 12 = .ok (.invokestatic 88, 3) := by decide +kernel
theorem dX12_isSheet_15 : decode cX12_isSheet 15 = .ok (.ireturn, 1) := by decide +kernel
theorem dX12_between_0 : decode cX12_between 0 = .ok (.aload_n 0, 1) := by decide +kernel
theorem dX12_between_1 : decode cX12_between 1 = .ok (.iconst 0, 1) := by decide +kernel
theorem dX12_between_2 : decode cX12_between 2 = .ok (.putfield 78, 3) := by decide +kernel
theorem dX12_between_5 : decode cX12_between 5 = .ok (.iload_n 1, 1) := by decide +kernel
theorem dX12_between_6 : decode cX12_between 6 = .ok (.invokestatic 120, 3) := by decide +kernel
theorem dX12_between_9 : decode cX12_between 9 = .ok (.ifCond .eq 10, 3) := by decide +kernel
theorem dX12_between_12 : decode cX12_between 12 = .ok (.iload_n 2, 1) := by decide +kernel
theorem dX12_between_13 : decode cX12_between 13 = .ok (.invokestatic 120, 3) := by decide +kernel
theorem dX12_between_16 : decode cX12_between 16 = .ok (.ifCond .ne 6, 3) := by decide +kernel
theorem dX12_between_19 : decode cX12_between 19 = .ok (.ldc 98, 2) := by decide +kernel
theorem dX12_between_21 : decode cX12_between 21 = .ok (.ireturn, 1) := by decide +kernel
theorem dX12_between_22 : decode cX12_between 22 = .ok (.aload_n 0, 1) := by decide +kernel
theorem dX12_between_23 : decode cX12_between 23 = .ok (.getfield 82, 3) := by decide +kernel
theorem dX12_between_26 : decode cX12_between 26 = .ok (.istore 5, 2) := by decide +kernel
theorem dX12_between_28 : decode cX12_between 28 = .ok (.aload_n 0, 1) := by decide +kernel
theorem dX12_between_29 : decode cX12_between 29 = .ok (.iload_n 2, 1) := by decide +kernel
theorem dX12_between_30 : decode cX12_between 30 = .ok (.iconst 1, 1) := by decide +kernel
theorem dX12_between_31 : decode cX12_between 31 = .ok (.invokevirtual 137, 3) := by decide +kernel
theorem dX12_between_34 : decode cX12_between 34 = .ok (.istore 6, 2) := by decide +kernel
theorem dX12_between_36 : decode cX12_between 36 = .ok (.iload 6, 2) := by decide +kernel
theorem dX12_between_38 : decode cX12_between 38 = .ok (.ifCond .ge 6, 3) := by decide +kernel
theorem dX12_between_41 : decode cX12_between 41 = .ok (.iload 6, 2) := by decide +kernel
theorem dX12_between_43 : decode cX12_between 43 = .ok (.ireturn, 1) := by decide +kernel
theorem dX12_between_44 : decode cX12_between 44 = .ok (.aload_n 0, 1) := by decide +kernel
theorem dX12_between_45 : decode cX12_between 45 = .ok (.iload_n 2, 1) := by decide +kernel
theorem dX12_between_46 : decode cX12_between 46 = .ok (.iload_n 3, 1) := by decide +kernel
theorem dX12_between_47 : decode cX12_between 47 = .ok (.invokevirtual 154, 3) := by decide +kernel
theorem dX12_between_50 : decode cX12_between 50 = .ok (.ifCond .eq 13, 3) := by decide +kernel
theorem dX12_between_53 : decode cX12_between 53 = .ok (.aload_n 0, 1) := by decide +kernel
theorem dX12_between_54 : decode cX12_between 54 = .ok (.iload_n 2, 1) := by decide +kernel
theorem dX12_between_55 : decode cX12_between 55 = .ok (.iload 4, 2) := by decide +kernel
theorem dX12_between_57 : decode cX12_between 57 = .ok (.invokevirtual 154, 3) := by decide +kernel
theorem dX12_between_60 : decode cX12_between 60 = .ok (.ifCond .ne 12, 3) := by decide +kernel
theorem dX12_between_63 : decode cX12_between 63 = .ok (.aload_n 0, 1) := by decide +kernel
theorem dX12_between_64 : decode cX12_between 64 = .ok (.iload 5, 2) := by decide +kernel
theorem dX12_between_66 : decode cX12_between 66 = .ok (.putfield 82, 3) := by decide +kernel
theorem dX12_between_69 : decode cX12_between 69 = .ok (.ldc 98, 2) := by decide +kernel
theorem dX12_between_71 : decode cX12_between 71 = .ok (.ireturn, 1) := by decide +kernel
theorem dX12_between_72 : decode cX12_between 72 = .ok (.aload_n 0, 1) := by decide +kernel
theorem dX12_between_73 : decode cX12_between 73 = .ok (.iload_n 2, 1) := by decide +kernel
theorem dX12_between_74 : decode cX12_between 74 = .ok (.iload_n 3, 1) := by decide +kernel
theorem dX12_between_75 : decode cX12_between 75 = .ok (.iload 4, 2) := by decide +kernel
theorem dX12_between_77 : decode cX12_between 77 = .ok (.invokevirtual 158, 3) := by decide +kernel
theorem dX12_between_80 : decode cX12_between 80 = .ok (.istore 7, 2) := by decide +kernel
theorem dX12_between_82 : decode cX12_between 82 = .ok (.aload_n 0, 1) := by decide +kernel
theorem dX12_between_83 : decode cX12_between 83 = .ok (.getfield 19, 3) := by decide +kernel
theorem dX12_between_86 : decode cX12_between 86 = .ok (.bipush 10, 2) := by decide +kernel
theorem dX12_between_88 : decode cX12_between 88 = .ok (.iload 7, 2) := by decide +kernel
theorem dX12_between_90 : decode cX12_between 90 = .ok (.iastore, 1) := by decide +kernel
theorem dX12_between_91 : decode cX12_between 91 = .ok (.aload_n 0, 1) := by decide +kernel
theorem dX12_between_92 : decode cX12_between 92 = .ok (.getfield 22, 3) := by decide +kernel
theorem dX12_between_95 : decode cX12_between 95 = .ok (.bipush 10, 2) := by decide +kernel
theorem dX12_between_97 : decode cX12_between 97 = .ok (.aload_n 0, 1) := by decide +kernel
theorem dX12_between_98 : decode cX12_between 98 = .ok (.getfield 22, 3) := by decide +kernel
theorem dX12_between_101 : decode cX12_between 101 = .ok (.iload_n 2, 1) := by decide +kernel
theorem dX12_between_102 : decode cX12_between 102 = .ok (.iaload, 1) := by decide +kernel
theorem dX12_between_103 : decode cX12_between 103 = .ok (.iastore, 1) := by decide +kernel
theorem dX12_between_104 : decode cX12_between 104 = .ok (.iconst 0, 1) := by decide +kernel
theorem dX12_between_105 : decode cX12_between 105 = .ok (.istore 8, 2) := by decide +kernel
theorem dX12_between_107 : decode cX12_between 107 = .ok (.iload 8, 2) := by decide +kernel
theorem dX12_between_109 : decode cX12_between 109 = .ok (.aload_n 0, 1) := by decide +kernel
theorem dX12_between_110 : decode cX12_between 110 = .ok (.getfield 22, 3) := by decide +kernel
theorem dX12_between_113 : decode cX12_between 113 = .ok (.iload_n 2, 1) := by decide +kernel
theorem dX12_between_114 : decode cX12_between 114 = .ok (.iaload, 1) := by decide +kernel
theorem dX12_between_115 : decode cX12_between 115 = .ok (.if_icmp .ge 58, 3) := by decide +kernel
theorem dX12_between_118 : decode cX12_between 118 = .ok (.iconst 0, 1) := by decide +kernel
theorem dX12_between_119 : decode cX12_between 119 = .ok (.istore 9, 2) := by decide +kernel
theorem dX12_between_121 : decode cX12_between 121 = .ok (.iload 9, 2) := by decide +kernel
theorem dX12_between_123 : decode cX12_between 123 = .ok (.aload_n 0, 1) := by decide +kernel
theorem dX12_between_124 : decode cX12_between 124 = .ok (.getfield 19, 3) := by decide +kernel
theorem dX12_between_127 : decode cX12_between 127 = .ok (.iload_n 2, 1) := by decide +kernel
theorem dX12_between_128 : decode cX12_between 128 = .ok (.iaload, 1) := by decide +kernel
theorem dX12_between_129 : decode cX12_between 129 = .ok (.if_icmp .ge 38, 3) := by decide +kernel
theorem dX12_between_132 : decode cX12_between 132 = .ok (.aload_n 0, 1) := by decide +kernel
theorem dX12_between_133 : decode cX12_between 133 = .ok (.bipush 10, 2) := by decide +kernel
theorem dX12_between_135 : decode cX12_between 135 = .ok (.iload 8, 2) := by decide +kernel
theorem dX12_between_137 : decode cX12_between 137 = .ok (.aload_n 0, 1) := by decide +kernel
theorem dX12_between_138 : decode cX12_between 138 = .ok (.getfield 44, 3) := by decide +kernel
theorem dX12_between_141 : decode cX12_between 141 = .ok (.iload 9, 2) := by decide +kernel
theorem dX12_between_143 : decode cX12_between 143 = .ok (.iaload, 1) := by decide +kernel
theorem dX12_between_144 : decode cX12_between 144 = .ok (.aload_n 0, 1) := by decide +kernel
theorem dX12_between_145 : decode cX12_between 145 = .ok (.getfield 44, 3) := by decide +kernel
theorem dX12_between_148 : decode cX12_between 148 = .ok (.aload_n 0, 1) := by decide +kernel
theorem dX12_between_149 : decode cX12_between 149 = .ok (.iload_n 2, 1) := by decide +kernel
theorem dX12_between_150 : decode cX12_between 150 = .ok (.iload 8, 2) := by decide +kernel
theorem dX12_between_152 : decode cX12_between 152 = .ok (.iload 9, 2) := by decide +kernel
theorem dX12_between_154 : decode cX12_between 154 = .ok (.invokevirtual 105, 3) := by decide +kernel
theorem dX12_between_157 : decode cX12_between 157 = .ok (.iaload, 1) := by decide +kernel
theorem dX12_between_158 : decode cX12_between 158 = .ok (.invokevirtual 127, 3) := by decide +kernel
theorem dX12_between_161 : decode cX12_between 161 = .ok (.iinc 9 1, 3) := by decide +kernel
theorem dX12_between_164 : decode cX12_between 164 = .ok (.goto (-43), 3) := by decide +kernel
theorem dX12_between_167 : decode cX12_between 167 = .ok (.iinc 8 1, 3) := by decide +kernel
theorem dX12_between_170 : decode cX12_between 170 = .ok (.goto (-63), 3) := by decide +kernel
theorem dX12_between_173 : decode cX12_between 173 = .ok (.aload_n 0, 1) := by decide +kernel
theorem dX12_between_174 : decode cX12_between 174 = .ok (.iload_n 1, 1) := by decide +kernel
theorem dX12_between_175 : decode cX12_between 175 = .ok (.invokevirtual 131, 3) := by decide +kernel
theorem dX12_between_178 : decode cX12_between 178 = .ok (.ireturn, 1) := by decide +kernel
theorem dX12_braided_0 : decode cX12_braided 0 = .ok (.aload_n 0, 1) := by decide +kernel
theorem dX12_braided_1 : decode cX12_braided 1 = .ok (.iload_n 1, 1) := by decide +kernel
theorem dX12_braided_2 : decode cX12_braided 2 = .ok (.iload_n 2, 1) := by decide +kernel
theorem dX12_braided_3 : decode cX12_braided 3 = .ok (.invokevirtual 113, 3) := by decide +kernel
theorem dX12_braided_6 : decode cX12_braided 6 = .ok (.iconst 0, 1) := by decide +kernel
theorem dX12_braided_7 : decode cX12_braided 7 = .ok (.istore 5, 2) := by decide +kernel
theorem dX12_braided_9 : decode cX12_braided 9 = .ok (.iload 5, 2) := by decide +kernel
theorem dX12_braided_11 : decode cX12_braided 11 = .ok (.aload_n 0, 1) := by decide +kernel
theorem dX12_braided_12 : decode cX12_braided 12 = .ok (.getfield 19, 3) := by decide +kernel
theorem dX12_braided_15 : decode cX12_braided 15 = .ok (.iload_n 2, 1) := by decide +kernel
theorem dX12_braided_16 : decode cX12_braided 16 = .ok (.iaload, 1) := by decide +kernel
theorem dX12_braided_17 : decode cX12_braided 17 = .ok (.if_icmp .ge 117, 3) := by decide +kernel
theorem dX12_braided_20 : decode cX12_braided 20 = .ok (.iload 4, 2) := by decide +kernel
theorem dX12_braided_22 : decode cX12_braided 22 = .ok (.ifCond .ne 58, 3) := by decide +kernel
theorem dX12_braided_25 : decode cX12_braided 25 = .ok (.aload_n 0, 1) := by decide +kernel
theorem dX12_braided_26 : decode cX12_braided 26 = .ok (.iload_n 1, 1) := by decide +kernel
theorem dX12_braided_27 : decode cX12_braided 27 = .ok (.iload_n 3, 1) := by decide +kernel
theorem dX12_braided_28 : decode cX12_braided 28 = .ok (.iload 5, 2) := by decide +kernel
theorem dX12_braided_30 : decode cX12_braided 30 = .ok (.aload_n 0, 1) := by decide +kernel
theorem dX12_braided_31 : decode cX12_braided 31 = .ok (.iload_n 2, 1) := by decide +kernel
theorem dX12_braided_32 : decode cX12_braided 32 = .ok (.iload_n 3, 1) := by decide +kernel
theorem dX12_braided_33 : decode cX12_braided 33 = .ok (.iconst 1, 1) := by decide +kernel
theorem dX12_braided_34 : decode cX12_braided 34 = .ok (.iadd, 1) := by decide +kernel
theorem dX12_braided_35 : decode cX12_braided 35 = .ok (.iload 5, 2) := by decide +kernel
theorem dX12_braided_37 : decode cX12_braided 37 = .ok (.invokevirtual 105, 3) := by decide +kernel
theorem dX12_braided_40 : decode cX12_braided 40 = .ok (.invokevirtual 127, 3) := by decide +kernel
theorem dX12_braided_43 : decode cX12_braided 43 = .ok (.aload_n 0, 1) := by decide +kernel
theorem dX12_braided_44 : decode cX12_braided 44 = .ok (.iload_n 1, 1) := by decide +kernel
theorem dX12_braided_45 : decode cX12_braided 45 = .ok (.iload_n 3, 1) := by decide +kernel
theorem dX12_braided_46 : decode cX12_braided 46 = .ok (.iconst 1, 1) := by decide +kernel
theorem dX12_braided_47 : decode cX12_braided 47 = .ok (.iadd, 1) := by decide +kernel
theorem dX12_braided_48 : decode cX12_braided 48 = .ok (.iload 5, 2) := by decide +kernel
theorem dX12_braided_50 : decode cX12_braided 50 = .ok (.aload_n 0, 1) := by decide +kernel
theorem dX12_braided_51 : decode cX12_braided 51 = .ok (.iload_n 2, 1) := by decide +kernel
theorem dX12_braided_52 : decode cX12_braided 52 = .ok (.iload_n 3, 1) := by decide +kernel
theorem dX12_braided_53 : decode cX12_braided 53 = .ok (.iconst 1, 1) := by decide +kernel
theorem dX12_braided_54 : decode cX12_braided 54 = .ok (.iadd, 1) := by decide +kernel
theorem dX12_braided_55 : decode cX12_braided 55 = .ok (.aload_n 0, 1) := by decide +kernel
theorem dX12_braided_56 : decode cX12_braided 56 = .ok (.iload_n 2, 1) := by decide +kernel
theorem dX12_braided_57 : decode cX12_braided 57 = .ok (.iload_n 3, 1) := by decide +kernel
theorem dX12_braided_58 : decode cX12_braided 58 = .ok (.aload_n 0, 1) := by decide +kernel
theorem dX12_braided_59 : decode cX12_braided 59 = .ok (.iload_n 2, 1) := by decide +kernel
theorem dX12_braided_60 : decode cX12_braided 60 = .ok (.iload_n 3, 1) := by decide +kernel
theorem dX12_braided_61 : decode cX12_braided 61 = .ok (.iconst 1, 1) := by decide +kernel
theorem dX12_braided_62 : decode cX12_braided 62 = .ok (.iadd, 1) := by decide +kernel
theorem dX12_braided_63 : decode cX12_braided 63 = .ok (.iload 5, 2) := by decide +kernel
theorem dX12_braided_65 : decode cX12_braided 65 = .ok (.invokevirtual 161, 3) := by decide +kernel
theorem dX12_braided_68 : decode cX12_braided 68 = .ok (.invokevirtual 105, 3) := by decide +kernel
theorem dX12_braided_71 : decode cX12_braided 71 = .ok (.invokevirtual 105, 3) := by decide +kernel
theorem dX12_braided_74 : decode cX12_braided 74 = .ok (.invokevirtual 127, 3) := by decide +kernel
theorem dX12_braided_77 : decode cX12_braided 77 = .ok (.goto 51, 3) := by decide +kernel
theorem dX12_braided_80 : decode cX12_braided 80 = .ok (.aload_n 0, 1) := by decide +kernel
theorem dX12_braided_81 : decode cX12_braided 81 = .ok (.iload_n 1, 1) := by decide +kernel
theorem dX12_braided_82 : decode cX12_braided 82 = .ok (.iload_n 3, 1) := by decide +kernel
theorem dX12_braided_83 : decode cX12_braided 83 = .ok (.iconst 1, 1) := by decide +kernel
theorem dX12_braided_84 : decode cX12_braided 84 = .ok (.iadd, 1) := by decide +kernel
theorem dX12_braided_85 : decode cX12_braided 85 = .ok (.iload 5, 2) := by decide +kernel
theorem dX12_braided_87 : decode cX12_braided 87 = .ok (.aload_n 0, 1) := by decide +kernel
theorem dX12_braided_88 : decode cX12_braided 88 = .ok (.iload_n 2, 1) := by decide +kernel
theorem dX12_braided_89 : decode cX12_braided 89 = .ok (.iload_n 3, 1) := by decide +kernel
theorem dX12_braided_90 : decode cX12_braided 90 = .ok (.iload 5, 2) := by decide +kernel
theorem dX12_braided_92 : decode cX12_braided 92 = .ok (.invokevirtual 105, 3) := by decide +kernel
theorem dX12_braided_95 : decode cX12_braided 95 = .ok (.invokevirtual 127, 3) := by decide +kernel
theorem dX12_braided_98 : decode cX12_braided 98 = .ok (.aload_n 0, 1) := by decide +kernel
theorem dX12_braided_99 : decode cX12_braided 99 = .ok (.iload_n 1, 1) := by decide +kernel
theorem dX12_braided_100 : decode cX12_braided 100 = .ok (.iload_n 3, 1) := by decide +kernel
theorem dX12_braided_101 : decode cX12_braided 101 = .ok (.iload 5, 2) := by decide +kernel
theorem dX12_braided_103 : decode cX12_braided 103 = .ok (.aload_n 0, 1) := by decide +kernel
theorem dX12_braided_104 : decode cX12_braided 104 = .ok (.iload_n 2, 1) := by decide +kernel
theorem dX12_braided_105 : decode cX12_braided 105 = .ok (.iload_n 3, 1) := by decide +kernel
theorem dX12_braided_106 : decode cX12_braided 106 = .ok (.aload_n 0, 1) := by decide +kernel
theorem dX12_braided_107 : decode cX12_braided 107 = .ok (.iload_n 2, 1) := by decide +kernel
theorem dX12_braided_108 : decode cX12_braided 108 = .ok (.iload_n 3, 1) := by decide +kernel
theorem dX12_braided_109 : decode cX12_braided 109 = .ok (.iconst 1, 1) := by decide +kernel
theorem dX12_braided_110 : decode cX12_braided 110 = .ok (.iadd, 1) := by decide +kernel
theorem dX12_braided_111 : decode cX12_braided 111 = .ok (.aload_n 0, 1) := by decide +kernel
theorem dX12_braided_112 : decode cX12_braided 112 = .ok (.iload_n 2, 1) := by decide +kernel
theorem dX12_braided_113 : decode cX12_braided 113 = .ok (.iload_n 3, 1) := by decide +kernel
theorem dX12_braided_114 : decode cX12_braided 114 = .ok (.iload 5, 2) := by decide +kernel
theorem dX12_braided_116 : decode cX12_braided 116 = .ok (.invokevirtual 105, 3) := by decide +kernel
theorem dX12_braided_119 : decode cX12_braided 119 = .ok (.invokevirtual 105, 3) := by decide +kernel
theorem dX12_braided_122 : decode cX12_braided 122 = .ok (.invokevirtual 161, 3) := by decide +kernel
theorem dX12_braided_125 : decode cX12_braided 125 = .ok (.invokevirtual 127, 3) := by decide +kernel
theorem dX12_braided_128 : decode cX12_braided 128 = .ok (.iinc 5 1, 3) := by decide +kernel
theorem dX12_braided_131 : decode cX12_braided 131 = .ok (.goto (-122), 3) := by decide +kernel
theorem dX12_braided_134 : decode cX12_braided 134 = .ok (.return_, 1) := by decide +kernel
theorem dX12_braid_0 : decode cX12_braid 0 = .ok (.aload_n 0, 1) := by decide +kernel
theorem dX12_braid_1 : decode cX12_braid 1 = .ok (.iconst 0, 1) := by decide +kernel
theorem dX12_braid_2 : decode cX12_braid 2 = .ok (.putfield 78, 3) := by decide +kernel
theorem dX12_braid_5 : decode cX12_braid 5 = .ok (.iload_n 1, 1) := by decide +kernel
theorem dX12_braid_6 : decode cX12_braid 6 = .ok (.invokestatic 120, 3) := by decide +kernel
theorem dX12_braid_9 : decode cX12_braid 9 = .ok (.ifCond .eq 21, 3) := by decide +kernel
theorem dX12_braid_12 : decode cX12_braid 12 = .ok (.iload_n 2, 1) := by decide +kernel
theorem dX12_braid_13 : decode cX12_braid 13 = .ok (.invokestatic 120, 3) := by decide +kernel
theorem dX12_braid_16 : decode cX12_braid 16 = .ok (.ifCond .eq 14, 3) := by decide +kernel
theorem dX12_braid_19 : decode cX12_braid 19 = .ok (.iload 4, 2) := by decide +kernel
theorem dX12_braid_21 : decode cX12_braid 21 = .ok (.i2l, 1) := by decide +kernel
theorem dX12_braid_22 : decode cX12_braid 22 = .ok (.lconst 0, 1) := by decide +kernel
theorem dX12_braid_23 : decode cX12_braid 23 = .ok (.lconst 1, 1) := by decide +kernel
theorem dX12_braid_24 : decode cX12_braid 24 = .ok (.invokestatic 88, 3) := by decide +kernel
theorem dX12_braid_27 : decode cX12_braid 27 = .ok (.ifCond .ne 6, 3) := by decide +kernel
theorem dX12_braid_30 : decode cX12_braid 30 = .ok (.ldc 98, 2) := by decide +kernel
theorem dX12_braid_32 : decode cX12_braid 32 = .ok (.ireturn, 1) := by decide +kernel
theorem dX12_braid_33 : decode cX12_braid 33 = .ok (.aload_n 0, 1) := by decide +kernel
theorem dX12_braid_34 : decode cX12_braid 34 = .ok (.getfield 82, 3) := by decide +kernel
theorem dX12_braid_37 : decode cX12_braid 37 = .ok (.istore 5, 2) := by decide +kernel
theorem dX12_braid_39 : decode cX12_braid 39 = .ok (.aload_n 0, 1) := by decide +kernel
theorem dX12_braid_40 : decode cX12_braid 40 = .ok (.iload_n 2, 1) := by decide +kernel
theorem dX12_braid_41 : decode cX12_braid 41 = .ok (.iconst 0, 1) := by decide +kernel
theorem dX12_braid_42 : decode cX12_braid 42 = .ok (.invokevirtual 137, 3) := by decide +kernel
theorem dX12_braid_45 : decode cX12_braid 45 = .ok (.istore 6, 2) := by decide +kernel
theorem dX12_braid_47 : decode cX12_braid 47 = .ok (.iload 6, 2) := by decide +kernel
theorem dX12_braid_49 : decode cX12_braid 49 = .ok (.ifCond .ge 6, 3) := by decide +kernel
theorem dX12_braid_52 : decode cX12_braid 52 = .ok (.iload 6, 2) := by decide +kernel
theorem dX12_braid_54 : decode cX12_braid 54 = .ok (.ireturn, 1) := by decide +kernel
theorem dX12_braid_55 : decode cX12_braid 55 = .ok (.iload_n 3, 1) := by decide +kernel
theorem dX12_braid_56 : decode cX12_braid 56 = .ok (.i2l, 1) := by decide +kernel
theorem dX12_braid_57 : decode cX12_braid 57 = .ok (.lconst 0, 1) := by decide +kernel
theorem dX12_braid_58 : decode cX12_braid 58 = .ok (.aload_n 0, 1) := by decide +kernel
theorem dX12_braid_59 : decode cX12_braid 59 = .ok (.getfield 22, 3) := by decide +kernel
theorem dX12_braid_62 : decode cX12_braid 62 = .ok (.iload_n 2, 1) := by decide +kernel
theorem dX12_braid_63 : decode cX12_braid 63 = .ok (.iaload, 1) := by decide +kernel
theorem dX12_braid_64 : decode cX12_braid 64 = .ok (.iconst 2, 1) := by decide +kernel
theorem dX12_braid_65 : decode cX12_braid 65 = .ok (.isub, 1) := by decide +kernel
theorem dX12_braid_66 : decode cX12_braid 66 = .ok (.i2l, 1) := by decide +kernel
theorem dX12_braid_67 : decode cX12_braid 67 = .ok (.invokestatic 88, 3) := by decide +kernel
theorem dX12_braid_70 : decode cX12_braid 70 = .ok (.ifCond .ne 12, 3) := by decide +kernel
theorem dX12_braid_73 : decode cX12_braid 73 = .ok (.aload_n 0, 1) := by decide +kernel
theorem dX12_braid_74 : decode cX12_braid 74 = .ok (.iload 5, 2) := by decide +kernel
theorem dX12_braid_76 : decode cX12_braid 76 = .ok (.putfield 82, 3) := by decide +kernel
theorem dX12_braid_79 : decode cX12_braid 79 = .ok (.ldc 98, 2) := by decide +kernel
theorem dX12_braid_81 : decode cX12_braid 81 = .ok (.ireturn, 1) := by decide +kernel
theorem dX12_braid_82 : decode cX12_braid 82 = .ok (.aload_n 0, 1) := by decide +kernel
theorem dX12_braid_83 : decode cX12_braid 83 = .ok (.bipush 10, 2) := by decide +kernel
theorem dX12_braid_85 : decode cX12_braid 85 = .ok (.iload_n 2, 1) := by decide +kernel
theorem dX12_braid_86 : decode cX12_braid 86 = .ok (.iload_n 3, 1) := by decide +kernel
theorem dX12_braid_87 : decode cX12_braid 87 = .ok (.iload 4, 2) := by decide +kernel
theorem dX12_braid_89 : decode cX12_braid 89 = .ok (.invokevirtual 164, 3) := by decide +kernel
theorem dX12_braid_92 : decode cX12_braid 92 = .ok (.aload_n 0, 1) := by decide +kernel
theorem dX12_braid_93 : decode cX12_braid 93 = .ok (.iload_n 1, 1) := by decide +kernel
theorem dX12_braid_94 : decode cX12_braid 94 = .ok (.invokevirtual 131, 3) := by decide +kernel
theorem dX12_braid_97 : decode cX12_braid 97 = .ok (.ireturn, 1) := by decide +kernel
theorem dX12_turn_0 : decode cX12_turn 0 = .ok (.aload_n 0, 1) := by decide +kernel
theorem dX12_turn_1 : decode cX12_turn 1 = .ok (.iconst 0, 1) := by decide +kernel
theorem dX12_turn_2 : decode cX12_turn 2 = .ok (.putfield 78, 3) := by decide +kernel
theorem dX12_turn_5 : decode cX12_turn 5 = .ok (.iload_n 1, 1) := by decide +kernel
theorem dX12_turn_6 : decode cX12_turn 6 = .ok (.invokestatic 120, 3) := by decide +kernel
theorem dX12_turn_9 : decode cX12_turn 9 = .ok (.ifCond .eq 20, 3) := by decide +kernel
theorem dX12_turn_12 : decode cX12_turn 12 = .ok (.iload_n 2, 1) := by decide +kernel
theorem dX12_turn_13 : decode cX12_turn 13 = .ok (.invokestatic 120, 3) := by decide +kernel
theorem dX12_turn_16 : decode cX12_turn 16 = .ok (.ifCond .eq 13, 3) := by decide +kernel
theorem dX12_turn_19 : decode cX12_turn 19 = .ok (.iload_n 3, 1) := by decide +kernel
theorem dX12_turn_20 : decode cX12_turn 20 = .ok (.i2l, 1) := by decide +kernel
theorem dX12_turn_21 : decode cX12_turn 21 = .ok (.lconst 0, 1) := by decide +kernel
theorem dX12_turn_22 : decode cX12_turn 22 = .ok (.lconst 1, 1) := by decide +kernel
theorem dX12_turn_23 : decode cX12_turn 23 = .ok (.invokestatic 88, 3) := by decide +kernel
theorem dX12_turn_26 : decode cX12_turn 26 = .ok (.ifCond .ne 6, 3) := by decide +kernel
theorem dX12_turn_29 : decode cX12_turn 29 = .ok (.ldc 98, 2) := by decide +kernel
theorem dX12_turn_31 : decode cX12_turn 31 = .ok (.ireturn, 1) := by decide +kernel
theorem dX12_turn_32 : decode cX12_turn 32 = .ok (.aload_n 0, 1) := by decide +kernel
theorem dX12_turn_33 : decode cX12_turn 33 = .ok (.iload_n 2, 1) := by decide +kernel
theorem dX12_turn_34 : decode cX12_turn 34 = .ok (.iconst 0, 1) := by decide +kernel
theorem dX12_turn_35 : decode cX12_turn 35 = .ok (.invokevirtual 137, 3) := by decide +kernel
theorem dX12_turn_38 : decode cX12_turn 38 = .ok (.istore 4, 2) := by decide +kernel
theorem dX12_turn_40 : decode cX12_turn 40 = .ok (.iload 4, 2) := by decide +kernel
theorem dX12_turn_42 : decode cX12_turn 42 = .ok (.ifCond .ge 6, 3) := by decide +kernel
theorem dX12_turn_45 : decode cX12_turn 45 = .ok (.iload 4, 2) := by decide +kernel
theorem dX12_turn_47 : decode cX12_turn 47 = .ok (.ireturn, 1) := by decide +kernel
theorem dX12_turn_48 : decode cX12_turn 48 = .ok (.iload_n 3, 1) := by decide +kernel
theorem dX12_turn_49 : decode cX12_turn 49 = .ok (.iconst 1, 1) := by decide +kernel
theorem dX12_turn_50 : decode cX12_turn 50 = .ok (.if_icmp .ne 34, 3) := by decide +kernel
theorem dX12_turn_53 : decode cX12_turn 53 = .ok (.aload_n 0, 1) := by decide +kernel
theorem dX12_turn_54 : decode cX12_turn 54 = .ok (.getfield 22, 3) := by decide +kernel
theorem dX12_turn_57 : decode cX12_turn 57 = .ok (.iload_n 2, 1) := by decide +kernel
theorem dX12_turn_58 : decode cX12_turn 58 = .ok (.iaload, 1) := by decide +kernel
theorem dX12_turn_59 : decode cX12_turn 59 = .ok (.iconst 3, 1) := by decide +kernel
theorem dX12_turn_60 : decode cX12_turn 60 = .ok (.if_icmp .eq 9, 3) := by decide +kernel
theorem dX12_turn_63 : decode cX12_turn 63 = .ok (.aload_n 0, 1) := by decide +kernel
theorem dX12_turn_64 : decode cX12_turn 64 = .ok (.iconst 3, 1) := by decide +kernel
theorem dX12_turn_65 : decode cX12_turn 65 = .ok (.invokevirtual 99, 3) := by decide +kernel
theorem dX12_turn_68 : decode cX12_turn 68 = .ok (.ireturn, 1) := by decide +kernel
theorem dX12_turn_69 : decode cX12_turn 69 = .ok (.aload_n 0, 1) := by decide +kernel
theorem dX12_turn_70 : decode cX12_turn 70 = .ok (.bipush 10, 2) := by decide +kernel
theorem dX12_turn_72 : decode cX12_turn 72 = .ok (.iload_n 2, 1) := by decide +kernel
theorem dX12_turn_73 : decode cX12_turn 73 = .ok (.iconst 0, 1) := by decide +kernel
theorem dX12_turn_74 : decode cX12_turn 74 = .ok (.iconst 0, 1) := by decide +kernel
theorem dX12_turn_75 : decode cX12_turn 75 = .ok (.invokevirtual 164, 3) := by decide +kernel
theorem dX12_turn_78 : decode cX12_turn 78 = .ok (.aload_n 0, 1) := by decide +kernel
theorem dX12_turn_79 : decode cX12_turn 79 = .ok (.iload_n 1, 1) := by decide +kernel
theorem dX12_turn_80 : decode cX12_turn 80 = .ok (.invokevirtual 131, 3) := by decide +kernel
theorem dX12_turn_83 : decode cX12_turn 83 = .ok (.ireturn, 1) := by decide +kernel
theorem dX12_turn_84 : decode cX12_turn 84 = .ok (.aload_n 0, 1) := by decide +kernel
theorem dX12_turn_85 : decode cX12_turn 85 = .ok (.bipush 10, 2) := by decide +kernel
theorem dX12_turn_87 : decode cX12_turn 87 = .ok (.iload_n 2, 1) := by decide +kernel
theorem dX12_turn_88 : decode cX12_turn 88 = .ok (.invokevirtual 113, 3) := by decide +kernel
theorem dX12_turn_91 : decode cX12_turn 91 = .ok (.iconst 0, 1) := by decide +kernel
theorem dX12_turn_92 : decode cX12_turn 92 = .ok (.istore 5, 2) := by decide +kernel
theorem dX12_turn_94 : decode cX12_turn 94 = .ok (.iload 5, 2) := by decide +kernel
theorem dX12_turn_96 : decode cX12_turn 96 = .ok (.aload_n 0, 1) := by decide +kernel
theorem dX12_turn_97 : decode cX12_turn 97 = .ok (.getfield 22, 3) := by decide +kernel
theorem dX12_turn_100 : decode cX12_turn 100 = .ok (.iload_n 2, 1) := by decide +kernel
theorem dX12_turn_101 : decode cX12_turn 101 = .ok (.iaload, 1) := by decide +kernel
theorem dX12_turn_102 : decode cX12_turn 102 = .ok (.if_icmp .ge 57, 3) := by decide +kernel
theorem dX12_turn_105 : decode cX12_turn 105 = .ok (.iconst 0, 1) := by decide +kernel
theorem dX12_turn_106 : decode cX12_turn 106 = .ok (.istore 6, 2) := by decide +kernel
theorem dX12_turn_108 : decode cX12_turn 108 = .ok (.iload 6, 2) := by decide +kernel
theorem dX12_turn_110 : decode cX12_turn 110 = .ok (.aload_n 0, 1) := by decide +kernel
theorem dX12_turn_111 : decode cX12_turn 111 = .ok (.getfield 19, 3) := by decide +kernel
theorem dX12_turn_114 : decode cX12_turn 114 = .ok (.iload_n 2, 1) := by decide +kernel
theorem dX12_turn_115 : decode cX12_turn 115 = .ok (.iaload, 1) := by decide +kernel
theorem dX12_turn_116 : decode cX12_turn 116 = .ok (.if_icmp .ge 37, 3) := by decide +kernel
theorem dX12_turn_119 : decode cX12_turn 119 = .ok (.aload_n 0, 1) := by decide +kernel
theorem dX12_turn_120 : decode cX12_turn 120 = .ok (.bipush 10, 2) := by decide +kernel
theorem dX12_turn_122 : decode cX12_turn 122 = .ok (.aload_n 0, 1) := by decide +kernel
theorem dX12_turn_123 : decode cX12_turn 123 = .ok (.getfield 22, 3) := by decide +kernel
theorem dX12_turn_126 : decode cX12_turn 126 = .ok (.iload_n 2, 1) := by decide +kernel
theorem dX12_turn_127 : decode cX12_turn 127 = .ok (.iaload, 1) := by decide +kernel
theorem dX12_turn_128 : decode cX12_turn 128 = .ok (.iconst 1, 1) := by decide +kernel
theorem dX12_turn_129 : decode cX12_turn 129 = .ok (.isub, 1) := by decide +kernel
theorem dX12_turn_130 : decode cX12_turn 130 = .ok (.iload 5, 2) := by decide +kernel
theorem dX12_turn_132 : decode cX12_turn 132 = .ok (.isub, 1) := by decide +kernel
theorem dX12_turn_133 : decode cX12_turn 133 = .ok (.aload_n 0, 1) := by decide +kernel
theorem dX12_turn_134 : decode cX12_turn 134 = .ok (.iload_n 2, 1) := by decide +kernel
theorem dX12_turn_135 : decode cX12_turn 135 = .ok (.iload 5, 2) := by decide +kernel
theorem dX12_turn_137 : decode cX12_turn 137 = .ok (.iload 6, 2) := by decide +kernel
theorem dX12_turn_139 : decode cX12_turn 139 = .ok (.invokevirtual 105, 3) := by decide +kernel
theorem dX12_turn_142 : decode cX12_turn 142 = .ok (.iload 6, 2) := by decide +kernel
theorem dX12_turn_144 : decode cX12_turn 144 = .ok (.invokevirtual 127, 3) := by decide +kernel
theorem dX12_turn_147 : decode cX12_turn 147 = .ok (.iinc 6 1, 3) := by decide +kernel
theorem dX12_turn_150 : decode cX12_turn 150 = .ok (.goto (-42), 3) := by decide +kernel
theorem dX12_turn_153 : decode cX12_turn 153 = .ok (.iinc 5 1, 3) := by decide +kernel
theorem dX12_turn_156 : decode cX12_turn 156 = .ok (.goto (-62), 3) := by decide +kernel
theorem dX12_turn_159 : decode cX12_turn 159 = .ok (.aload_n 0, 1) := by decide +kernel
theorem dX12_turn_160 : decode cX12_turn 160 = .ok (.iload_n 1, 1) := by decide +kernel
theorem dX12_turn_161 : decode cX12_turn 161 = .ok (.invokevirtual 131, 3) := by decide +kernel
theorem dX12_turn_164 : decode cX12_turn 164 = .ok (.ireturn, 1) := by decide +kernel
theorem dX12_over_0 : decode cX12_over 0 = .ok (.aload_n 0, 1) := by decide +kernel
theorem dX12_over_1 : decode cX12_over 1 = .ok (.iconst 0, 1) := by decide +kernel
theorem dX12_over_2 : decode cX12_over 2 = .ok (.putfield 78, 3) := by decide +kernel
theorem dX12_over_5 : decode cX12_over 5 = .ok (.iload_n 1, 1) := by decide +kernel
theorem dX12_over_6 : decode cX12_over 6 = .ok (.invokestatic 120, 3) := by decide +kernel
theorem dX12_over_9 : decode cX12_over 9 = .ok (.ifCond .eq 17, 3) := by decide +kernel
theorem dX12_over_12 : decode cX12_over 12 = .ok (.iload_n 2, 1) := by decide +kernel
theorem dX12_over_13 : decode cX12_over 13 = .ok (.invokestatic 120, 3) := by decide +kernel
theorem dX12_over_16 : decode cX12_over 16 = .ok (.ifCond .eq 10, 3) := by decide +kernel
theorem dX12_over_19 : decode cX12_over 19 = .ok (.iload_n 3, 1) := by decide +kernel
theorem dX12_over_20 : decode cX12_over 20 = .ok (.invokestatic 120, 3) := by decide +kernel
theorem dX12_over_23 : decode cX12_over 23 = .ok (.ifCond .ne 6, 3) := by decide +kernel
theorem dX12_over_26 : decode cX12_over 26 = .ok (.ldc 98, 2) := by decide +kernel
theorem dX12_over_28 : decode cX12_over 28 = .ok (.ireturn, 1) := by decide +kernel
theorem dX12_over_29 : decode cX12_over 29 = .ok (.aload_n 0, 1) := by decide +kernel
theorem dX12_over_30 : decode cX12_over 30 = .ok (.getfield 19, 3) := by decide +kernel
theorem dX12_over_33 : decode cX12_over 33 = .ok (.iload_n 2, 1) := by decide +kernel
theorem dX12_over_34 : decode cX12_over 34 = .ok (.iaload, 1) := by decide +kernel
theorem dX12_over_35 : decode cX12_over 35 = .ok (.ifCond .eq 12, 3) := by decide +kernel
theorem dX12_over_38 : decode cX12_over 38 = .ok (.aload_n 0, 1) := by decide +kernel
theorem dX12_over_39 : decode cX12_over 39 = .ok (.getfield 19, 3) := by decide +kernel
theorem dX12_over_42 : decode cX12_over 42 = .ok (.iload_n 3, 1) := by decide +kernel
theorem dX12_over_43 : decode cX12_over 43 = .ok (.iaload, 1) := by decide +kernel
theorem dX12_over_44 : decode cX12_over 44 = .ok (.ifCond .ne 9, 3) := by decide +kernel
theorem dX12_over_47 : decode cX12_over 47 = .ok (.aload_n 0, 1) := by decide +kernel
theorem dX12_over_48 : decode cX12_over 48 = .ok (.iconst 1, 1) := by decide +kernel
theorem dX12_over_49 : decode cX12_over 49 = .ok (.invokevirtual 99, 3) := by decide +kernel
theorem dX12_over_52 : decode cX12_over 52 = .ok (.ireturn, 1) := by decide +kernel
theorem dX12_over_53 : decode cX12_over 53 = .ok (.aload_n 0, 1) := by decide +kernel
theorem dX12_over_54 : decode cX12_over 54 = .ok (.getfield 22, 3) := by decide +kernel
theorem dX12_over_57 : decode cX12_over 57 = .ok (.iload_n 2, 1) := by decide +kernel
theorem dX12_over_58 : decode cX12_over 58 = .ok (.iaload, 1) := by decide +kernel
theorem dX12_over_59 : decode cX12_over 59 = .ok (.aload_n 0, 1) := by decide +kernel
theorem dX12_over_60 : decode cX12_over 60 = .ok (.getfield 22, 3) := by decide +kernel
theorem dX12_over_63 : decode cX12_over 63 = .ok (.iload_n 3, 1) := by decide +kernel
theorem dX12_over_64 : decode cX12_over 64 = .ok (.iaload, 1) := by decide +kernel
theorem dX12_over_65 : decode cX12_over 65 = .ok (.if_icmp .eq 6, 3) := by decide +kernel
theorem dX12_over_68 : decode cX12_over 68 = .ok (.ldc 98, 2) := by decide +kernel
theorem dX12_over_70 : decode cX12_over 70 = .ok (.ireturn, 1) := by decide +kernel
theorem dX12_over_71 : decode cX12_over 71 = .ok (.aload_n 0, 1) := by decide +kernel
theorem dX12_over_72 : decode cX12_over 72 = .ok (.getfield 19, 3) := by decide +kernel
theorem dX12_over_75 : decode cX12_over 75 = .ok (.iload_n 2, 1) := by decide +kernel
theorem dX12_over_76 : decode cX12_over 76 = .ok (.iaload, 1) := by decide +kernel
theorem dX12_over_77 : decode cX12_over 77 = .ok (.aload_n 0, 1) := by decide +kernel
theorem dX12_over_78 : decode cX12_over 78 = .ok (.getfield 19, 3) := by decide +kernel
theorem dX12_over_81 : decode cX12_over 81 = .ok (.iload_n 3, 1) := by decide +kernel
theorem dX12_over_82 : decode cX12_over 82 = .ok (.iaload, 1) := by decide +kernel
theorem dX12_over_83 : decode cX12_over 83 = .ok (.imul, 1) := by decide +kernel
theorem dX12_over_84 : decode cX12_over 84 = .ok (.bipush 12, 2) := by decide +kernel
theorem dX12_over_86 : decode cX12_over 86 = .ok (.if_icmp .le 6, 3) := by decide +kernel
theorem dX12_over_89 : decode cX12_over 89 = .ok (.ldc 167, 2) := by decide +kernel
theorem dX12_over_91 : decode cX12_over 91 = .ok (.ireturn, 1) := by decide +kernel
theorem dX12_over_92 : decode cX12_over 92 = .ok (.aload_n 0, 1) := by decide +kernel
theorem dX12_over_93 : decode cX12_over 93 = .ok (.getfield 19, 3) := by decide +kernel
theorem dX12_over_96 : decode cX12_over 96 = .ok (.bipush 10, 2) := by decide +kernel
theorem dX12_over_98 : decode cX12_over 98 = .ok (.aload_n 0, 1) := by decide +kernel
theorem dX12_over_99 : decode cX12_over 99 = .ok (.getfield 19, 3) := by decide +kernel
theorem dX12_over_102 : decode cX12_over 102 = .ok (.iload_n 2, 1) := by decide +kernel
theorem dX12_over_103 : decode cX12_over 103 = .ok (.iaload, 1) := by decide +kernel
theorem dX12_over_104 : decode cX12_over 104 = .ok (.aload_n 0, 1) := by decide +kernel
theorem dX12_over_105 : decode cX12_over 105 = .ok (.getfield 19, 3) := by decide +kernel
theorem dX12_over_108 : decode cX12_over 108 = .ok (.iload_n 3, 1) := by decide +kernel
theorem dX12_over_109 : decode cX12_over 109 = .ok (.iaload, 1) := by decide +kernel
theorem dX12_over_110 : decode cX12_over 110 = .ok (.imul, 1) := by decide +kernel
theorem dX12_over_111 : decode cX12_over 111 = .ok (.iastore, 1) := by decide +kernel
theorem dX12_over_112 : decode cX12_over 112 = .ok (.aload_n 0, 1) := by decide +kernel
theorem dX12_over_113 : decode cX12_over 113 = .ok (.getfield 22, 3) := by decide +kernel
theorem dX12_over_116 : decode cX12_over 116 = .ok (.bipush 10, 2) := by decide +kernel
theorem dX12_over_118 : decode cX12_over 118 = .ok (.aload_n 0, 1) := by decide +kernel
theorem dX12_over_119 : decode cX12_over 119 = .ok (.getfield 22, 3) := by decide +kernel
theorem dX12_over_122 : decode cX12_over 122 = .ok (.iload_n 2, 1) := by decide +kernel
theorem dX12_over_123 : decode cX12_over 123 = .ok (.iaload, 1) := by decide +kernel
theorem dX12_over_124 : decode cX12_over 124 = .ok (.iastore, 1) := by decide +kernel
theorem dX12_over_125 : decode cX12_over 125 = .ok (.iconst 0, 1) := by decide +kernel
theorem dX12_over_126 : decode cX12_over 126 = .ok (.istore 4, 2) := by decide +kernel
theorem dX12_over_128 : decode cX12_over 128 = .ok (.iload 4, 2) := by decide +kernel
theorem dX12_over_130 : decode cX12_over 130 = .ok (.aload_n 0, 1) := by decide +kernel
theorem dX12_over_131 : decode cX12_over 131 = .ok (.getfield 22, 3) := by decide +kernel
theorem dX12_over_134 : decode cX12_over 134 = .ok (.iload_n 2, 1) := by decide +kernel
theorem dX12_over_135 : decode cX12_over 135 = .ok (.iaload, 1) := by decide +kernel
theorem dX12_over_136 : decode cX12_over 136 = .ok (.if_icmp .ge 95, 3) := by decide +kernel
theorem dX12_over_139 : decode cX12_over 139 = .ok (.iconst 0, 1) := by decide +kernel
theorem dX12_over_140 : decode cX12_over 140 = .ok (.istore 5, 2) := by decide +kernel
theorem dX12_over_142 : decode cX12_over 142 = .ok (.iload 5, 2) := by decide +kernel
theorem dX12_over_144 : decode cX12_over 144 = .ok (.aload_n 0, 1) := by decide +kernel
theorem dX12_over_145 : decode cX12_over 145 = .ok (.getfield 19, 3) := by decide +kernel
theorem dX12_over_148 : decode cX12_over 148 = .ok (.iload_n 2, 1) := by decide +kernel
theorem dX12_over_149 : decode cX12_over 149 = .ok (.iaload, 1) := by decide +kernel
theorem dX12_over_150 : decode cX12_over 150 = .ok (.if_icmp .ge 75, 3) := by decide +kernel
theorem dX12_over_153 : decode cX12_over 153 = .ok (.iconst 0, 1) := by decide +kernel
theorem dX12_over_154 : decode cX12_over 154 = .ok (.istore 6, 2) := by decide +kernel
theorem dX12_over_156 : decode cX12_over 156 = .ok (.iload 6, 2) := by decide +kernel
theorem dX12_over_158 : decode cX12_over 158 = .ok (.aload_n 0, 1) := by decide +kernel
theorem dX12_over_159 : decode cX12_over 159 = .ok (.getfield 19, 3) := by decide +kernel
theorem dX12_over_162 : decode cX12_over 162 = .ok (.iload_n 3, 1) := by decide +kernel
theorem dX12_over_163 : decode cX12_over 163 = .ok (.iaload, 1) := by decide +kernel
theorem dX12_over_164 : decode cX12_over 164 = .ok (.if_icmp .ge 55, 3) := by decide +kernel
theorem dX12_over_167 : decode cX12_over 167 = .ok (.aload_n 0, 1) := by decide +kernel
theorem dX12_over_168 : decode cX12_over 168 = .ok (.bipush 10, 2) := by decide +kernel
theorem dX12_over_170 : decode cX12_over 170 = .ok (.iload 4, 2) := by decide +kernel
theorem dX12_over_172 : decode cX12_over 172 = .ok (.iload 5, 2) := by decide +kernel
theorem dX12_over_174 : decode cX12_over 174 = .ok (.aload_n 0, 1) := by decide +kernel
theorem dX12_over_175 : decode cX12_over 175 = .ok (.getfield 19, 3) := by decide +kernel
theorem dX12_over_178 : decode cX12_over 178 = .ok (.iload_n 3, 1) := by decide +kernel
theorem dX12_over_179 : decode cX12_over 179 = .ok (.iaload, 1) := by decide +kernel
theorem dX12_over_180 : decode cX12_over 180 = .ok (.imul, 1) := by decide +kernel
theorem dX12_over_181 : decode cX12_over 181 = .ok (.iload 6, 2) := by decide +kernel
theorem dX12_over_183 : decode cX12_over 183 = .ok (.iadd, 1) := by decide +kernel
theorem dX12_over_184 : decode cX12_over 184 = .ok (.aload_n 0, 1) := by decide +kernel
theorem dX12_over_185 : decode cX12_over 185 = .ok (.iload_n 2, 1) := by decide +kernel
theorem dX12_over_186 : decode cX12_over 186 = .ok (.iload 4, 2) := by decide +kernel
theorem dX12_over_188 : decode cX12_over 188 = .ok (.iload 5, 2) := by decide +kernel
theorem dX12_over_190 : decode cX12_over 190 = .ok (.invokevirtual 105, 3) := by decide +kernel
theorem dX12_over_193 : decode cX12_over 193 = .ok (.aload_n 0, 1) := by decide +kernel
theorem dX12_over_194 : decode cX12_over 194 = .ok (.getfield 19, 3) := by decide +kernel
theorem dX12_over_197 : decode cX12_over 197 = .ok (.iload_n 3, 1) := by decide +kernel
theorem dX12_over_198 : decode cX12_over 198 = .ok (.iaload, 1) := by decide +kernel
theorem dX12_over_199 : decode cX12_over 199 = .ok (.imul, 1) := by decide +kernel
theorem dX12_over_200 : decode cX12_over 200 = .ok (.aload_n 0, 1) := by decide +kernel
theorem dX12_over_201 : decode cX12_over 201 = .ok (.iload_n 3, 1) := by decide +kernel
theorem dX12_over_202 : decode cX12_over 202 = .ok (.iload 4, 2) := by decide +kernel
theorem dX12_over_204 : decode cX12_over 204 = .ok (.iload 6, 2) := by decide +kernel
theorem dX12_over_206 : decode cX12_over 206 = .ok (.invokevirtual 105, 3) := by decide +kernel
theorem dX12_over_209 : decode cX12_over 209 = .ok (.iadd, 1) := by decide +kernel
theorem dX12_over_210 : decode cX12_over 210 = .ok (.invokevirtual 127, 3) := by decide +kernel
theorem dX12_over_213 : decode cX12_over 213 = .ok (.iinc 6 1, 3) := by decide +kernel
theorem dX12_over_216 : decode cX12_over 216 = .ok (.goto (-60), 3) := by decide +kernel
theorem dX12_over_219 : decode cX12_over 219 = .ok (.iinc 5 1, 3) := by decide +kernel
theorem dX12_over_222 : decode cX12_over 222 = .ok (.goto (-80), 3) := by decide +kernel
theorem dX12_over_225 : decode cX12_over 225 = .ok (.iinc 4 1, 3) := by decide +kernel
theorem dX12_over_228 : decode cX12_over 228 = .ok (.goto (-100), 3) := by decide +kernel
theorem dX12_over_231 : decode cX12_over 231 = .ok (.aload_n 0, 1) := by decide +kernel
theorem dX12_over_232 : decode cX12_over 232 = .ok (.iload_n 1, 1) := by decide +kernel
theorem dX12_over_233 : decode cX12_over 233 = .ok (.invokevirtual 131, 3) := by decide +kernel
theorem dX12_over_236 : decode cX12_over 236 = .ok (.ireturn, 1) := by decide +kernel
theorem dX12_clear_0 : decode cX12_clear 0 = .ok (.aload_n 0, 1) := by decide +kernel
theorem dX12_clear_1 : decode cX12_clear 1 = .ok (.iconst 0, 1) := by decide +kernel
theorem dX12_clear_2 : decode cX12_clear 2 = .ok (.putfield 78, 3) := by decide +kernel
theorem dX12_clear_5 : decode cX12_clear 5 = .ok (.iload_n 1, 1) := by decide +kernel
theorem dX12_clear_6 : decode cX12_clear 6 = .ok (.invokestatic 120, 3) := by decide +kernel
theorem dX12_clear_9 : decode cX12_clear 9 = .ok (.ifCond .ne 6, 3) := by decide +kernel
theorem dX12_clear_12 : decode cX12_clear 12 = .ok (.ldc 98, 2) := by decide +kernel
theorem dX12_clear_14 : decode cX12_clear 14 = .ok (.ireturn, 1) := by decide +kernel
theorem dX12_clear_15 : decode cX12_clear 15 = .ok (.aload_n 0, 1) := by decide +kernel
theorem dX12_clear_16 : decode cX12_clear 16 = .ok (.getfield 19, 3) := by decide +kernel
theorem dX12_clear_19 : decode cX12_clear 19 = .ok (.iload_n 1, 1) := by decide +kernel
theorem dX12_clear_20 : decode cX12_clear 20 = .ok (.iaload, 1) := by decide +kernel
theorem dX12_clear_21 : decode cX12_clear 21 = .ok (.ifCond .le 7, 3) := by decide +kernel
theorem dX12_clear_24 : decode cX12_clear 24 = .ok (.iconst 1, 1) := by decide +kernel
theorem dX12_clear_25 : decode cX12_clear 25 = .ok (.goto 4, 3) := by decide +kernel
theorem dX12_clear_28 : decode cX12_clear 28 = .ok (.iconst 0, 1) := by decide +kernel
theorem dX12_clear_29 : decode cX12_clear 29 = .ok (.istore_n 2, 1) := by decide +kernel
theorem dX12_clear_30 : decode cX12_clear 30 = .ok (.aload_n 0, 1) := by decide +kernel
theorem dX12_clear_31 : decode cX12_clear 31 = .ok (.getfield 19, 3) := by decide +kernel
theorem dX12_clear_34 : decode cX12_clear 34 = .ok (.iload_n 1, 1) := by decide +kernel
theorem dX12_clear_35 : decode cX12_clear 35 = .ok (.iconst 0, 1) := by decide +kernel
theorem dX12_clear_36 : decode cX12_clear 36 = .ok (.iastore, 1) := by decide +kernel
theorem dX12_clear_37 : decode cX12_clear 37 = .ok (.iload_n 2, 1) := by decide +kernel
theorem dX12_clear_38 : decode cX12_clear 38 = .ok (.ifCond .eq 7, 3) := by decide +kernel
theorem dX12_clear_41 : decode cX12_clear 41 = .ok (.iconst 1, 1) := by decide +kernel
theorem dX12_clear_42 : decode cX12_clear 42 = .ok (.goto 4, 3) := by decide +kernel
theorem dX12_clear_45 : decode cX12_clear 45 = .ok (.iconst 0, 1) := by decide +kernel
theorem dX12_clear_46 : decode cX12_clear 46 = .ok (.ireturn, 1) := by decide +kernel
theorem dX12_sift_0 : decode cX12_sift 0 = .ok (.iconst 0, 1) := by decide +kernel
theorem dX12_sift_1 : decode cX12_sift 1 = .ok (.istore_n 2, 1) := by decide +kernel
theorem dX12_sift_2 : decode cX12_sift 2 = .ok (.iload_n 2, 1) := by decide +kernel
theorem dX12_sift_3 : decode cX12_sift 3 = .ok (.iload_n 1, 1) := by decide +kernel
theorem dX12_sift_4 : decode cX12_sift 4 = .ok (.if_icmp .ge 169, 3) := by decide +kernel
theorem dX12_sift_7 : decode cX12_sift 7 = .ok (.aload_n 0, 1) := by decide +kernel
theorem dX12_sift_8 : decode cX12_sift 8 = .ok (.getfield 53, 3) := by decide +kernel
theorem dX12_sift_11 : decode cX12_sift 11 = .ok (.iload_n 2, 1) := by decide +kernel
theorem dX12_sift_12 : decode cX12_sift 12 = .ok (.iaload, 1) := by decide +kernel
theorem dX12_sift_13 : decode cX12_sift 13 = .ok (.istore_n 3, 1) := by decide +kernel
theorem dX12_sift_14 : decode cX12_sift 14 = .ok (.iload_n 3, 1) := by decide +kernel
theorem dX12_sift_15 : decode cX12_sift 15 = .ok (.iload_n 2, 1) := by decide +kernel
theorem dX12_sift_16 : decode cX12_sift 16 = .ok (.if_icmp .eq 151, 3) := by decide +kernel
theorem dX12_sift_19 : decode cX12_sift 19 = .ok (.bipush 12, 2) := by decide +kernel
theorem dX12_sift_21 : decode cX12_sift 21 = .ok (.iload_n 2, 1) := by decide +kernel
theorem dX12_sift_22 : decode cX12_sift 22 = .ok (.imul, 1) := by decide +kernel
theorem dX12_sift_23 : decode cX12_sift 23 = .ok (.iload_n 3, 1) := by decide +kernel
theorem dX12_sift_24 : decode cX12_sift 24 = .ok (.iadd, 1) := by decide +kernel
theorem dX12_sift_25 : decode cX12_sift 25 = .ok (.istore 4, 2) := by decide +kernel
theorem dX12_sift_27 : decode cX12_sift 27 = .ok (.aload_n 0, 1) := by decide +kernel
theorem dX12_sift_28 : decode cX12_sift 28 = .ok (.getfield 47, 3) := by decide +kernel
theorem dX12_sift_31 : decode cX12_sift 31 = .ok (.iload 4, 2) := by decide +kernel
theorem dX12_sift_33 : decode cX12_sift 33 = .ok (.baload, 1) := by decide +kernel
theorem dX12_sift_34 : decode cX12_sift 34 = .ok (.ifCond .ne 48, 3) := by decide +kernel
theorem dX12_sift_37 : decode cX12_sift 37 = .ok (.aload_n 0, 1) := by decide +kernel
theorem dX12_sift_38 : decode cX12_sift 38 = .ok (.getfield 47, 3) := by decide +kernel
theorem dX12_sift_41 : decode cX12_sift 41 = .ok (.iload 4, 2) := by decide +kernel
theorem dX12_sift_43 : decode cX12_sift 43 = .ok (.iconst 1, 1) := by decide +kernel
theorem dX12_sift_44 : decode cX12_sift 44 = .ok (.bastore, 1) := by decide +kernel
theorem dX12_sift_45 : decode cX12_sift 45 = .ok (.iconst 0, 1) := by decide +kernel
theorem dX12_sift_46 : decode cX12_sift 46 = .ok (.istore 5, 2) := by decide +kernel
theorem dX12_sift_48 : decode cX12_sift 48 = .ok (.iload 5, 2) := by decide +kernel
theorem dX12_sift_50 : decode cX12_sift 50 = .ok (.iload_n 1, 1) := by decide +kernel
theorem dX12_sift_51 : decode cX12_sift 51 = .ok (.if_icmp .ge 29, 3) := by decide +kernel
theorem dX12_sift_54 : decode cX12_sift 54 = .ok (.aload_n 0, 1) := by decide +kernel
theorem dX12_sift_55 : decode cX12_sift 55 = .ok (.getfield 50, 3) := by decide +kernel
theorem dX12_sift_58 : decode cX12_sift 58 = .ok (.bipush 12, 2) := by decide +kernel
theorem dX12_sift_60 : decode cX12_sift 60 = .ok (.iload 4, 2) := by decide +kernel
theorem dX12_sift_62 : decode cX12_sift 62 = .ok (.imul, 1) := by decide +kernel
theorem dX12_sift_63 : decode cX12_sift 63 = .ok (.iload 5, 2) := by decide +kernel
theorem dX12_sift_65 : decode cX12_sift 65 = .ok (.iadd, 1) := by decide +kernel
theorem dX12_sift_66 : decode cX12_sift 66 = .ok (.aload_n 0, 1) := by decide +kernel
theorem dX12_sift_67 : decode cX12_sift 67 = .ok (.getfield 53, 3) := by decide +kernel
theorem dX12_sift_70 : decode cX12_sift 70 = .ok (.iload 5, 2) := by decide +kernel
theorem dX12_sift_72 : decode cX12_sift 72 = .ok (.iaload, 1) := by decide +kernel
theorem dX12_sift_73 : decode cX12_sift 73 = .ok (.iastore, 1) := by decide +kernel
theorem dX12_sift_74 : decode cX12_sift 74 = .ok (.iinc 5 1, 3) := by decide +kernel
theorem dX12_sift_77 : decode cX12_sift 77 = .ok (.goto (-29), 3) := by decide +kernel
theorem dX12_sift_80 : decode cX12_sift 80 = .ok (.iconst 1, 1) := by decide +kernel
theorem dX12_sift_81 : decode cX12_sift 81 = .ok (.ireturn, 1) := by decide +kernel
theorem dX12_sift_82 : decode cX12_sift 82 = .ok (.iconst 0, 1) := by decide +kernel
theorem dX12_sift_83 : decode cX12_sift 83 = .ok (.istore 5, 2) := by decide +kernel
theorem dX12_sift_85 : decode cX12_sift 85 = .ok (.iload 5, 2) := by decide +kernel
theorem dX12_sift_87 : decode cX12_sift 87 = .ok (.iload_n 1, 1) := by decide +kernel
theorem dX12_sift_88 : decode cX12_sift 88 = .ok (.if_icmp .ge 50, 3) := by decide +kernel
theorem dX12_sift_91 : decode cX12_sift 91 = .ok (.iconst 0, 1) := by decide +kernel
theorem dX12_sift_92 : decode cX12_sift 92 = .ok (.istore 6, 2) := by decide +kernel
theorem dX12_sift_94 : decode cX12_sift 94 = .ok (.aload_n 0, 1) := by decide +kernel
theorem dX12_sift_95 : decode cX12_sift 95 = .ok (.getfield 50, 3) := by decide +kernel
theorem dX12_sift_98 : decode cX12_sift 98 = .ok (.bipush 12, 2) := by decide +kernel
theorem dX12_sift_100 : decode cX12_sift 100 = .ok (.iload 4, 2) := by decide +kernel
theorem dX12_sift_102 : decode cX12_sift 102 = .ok (.imul, 1) := by decide +kernel
theorem dX12_sift_103 : decode cX12_sift 103 = .ok (.iload 6, 2) := by decide +kernel
theorem dX12_sift_105 : decode cX12_sift 105 = .ok (.iadd, 1) := by decide +kernel
theorem dX12_sift_106 : decode cX12_sift 106 = .ok (.iaload, 1) := by decide +kernel
theorem dX12_sift_107 : decode cX12_sift 107 = .ok (.aload_n 0, 1) := by decide +kernel
theorem dX12_sift_108 : decode cX12_sift 108 = .ok (.getfield 53, 3) := by decide +kernel
theorem dX12_sift_111 : decode cX12_sift 111 = .ok (.iload 5, 2) := by decide +kernel
theorem dX12_sift_113 : decode cX12_sift 113 = .ok (.iaload, 1) := by decide +kernel
theorem dX12_sift_114 : decode cX12_sift 114 = .ok (.if_icmp .eq 9, 3) := by decide +kernel
theorem dX12_sift_117 : decode cX12_sift 117 = .ok (.iinc 6 1, 3) := by decide +kernel
theorem dX12_sift_120 : decode cX12_sift 120 = .ok (.goto (-26), 3) := by decide +kernel
theorem dX12_sift_123 : decode cX12_sift 123 = .ok (.aload_n 0, 1) := by decide +kernel
theorem dX12_sift_124 : decode cX12_sift 124 = .ok (.getfield 56, 3) := by decide +kernel
theorem dX12_sift_127 : decode cX12_sift 127 = .ok (.iload 5, 2) := by decide +kernel
theorem dX12_sift_129 : decode cX12_sift 129 = .ok (.iload 6, 2) := by decide +kernel
theorem dX12_sift_131 : decode cX12_sift 131 = .ok (.iastore, 1) := by decide +kernel
theorem dX12_sift_132 : decode cX12_sift 132 = .ok (.iinc 5 1, 3) := by decide +kernel
theorem dX12_sift_135 : decode cX12_sift 135 = .ok (.goto (-50), 3) := by decide +kernel
theorem dX12_sift_138 : decode cX12_sift 138 = .ok (.iconst 0, 1) := by decide +kernel
theorem dX12_sift_139 : decode cX12_sift 139 = .ok (.istore 5, 2) := by decide +kernel
theorem dX12_sift_141 : decode cX12_sift 141 = .ok (.iload 5, 2) := by decide +kernel
theorem dX12_sift_143 : decode cX12_sift 143 = .ok (.iload_n 1, 1) := by decide +kernel
theorem dX12_sift_144 : decode cX12_sift 144 = .ok (.if_icmp .ge 23, 3) := by decide +kernel
theorem dX12_sift_147 : decode cX12_sift 147 = .ok (.aload_n 0, 1) := by decide +kernel
theorem dX12_sift_148 : decode cX12_sift 148 = .ok (.getfield 53, 3) := by decide +kernel
theorem dX12_sift_151 : decode cX12_sift 151 = .ok (.iload 5, 2) := by decide +kernel
theorem dX12_sift_153 : decode cX12_sift 153 = .ok (.aload_n 0, 1) := by decide +kernel
theorem dX12_sift_154 : decode cX12_sift 154 = .ok (.getfield 56, 3) := by decide +kernel
theorem dX12_sift_157 : decode cX12_sift 157 = .ok (.iload 5, 2) := by decide +kernel
theorem dX12_sift_159 : decode cX12_sift 159 = .ok (.iaload, 1) := by decide +kernel
theorem dX12_sift_160 : decode cX12_sift 160 = .ok (.iastore, 1) := by decide +kernel
theorem dX12_sift_161 : decode cX12_sift 161 = .ok (.iinc 5 1, 3) := by decide +kernel
theorem dX12_sift_164 : decode cX12_sift 164 = .ok (.goto (-23), 3) := by decide +kernel
theorem dX12_sift_167 : decode cX12_sift 167 = .ok (.iinc 2 1, 3) := by decide +kernel
theorem dX12_sift_170 : decode cX12_sift 170 = .ok (.goto (-168), 3) := by decide +kernel
theorem dX12_sift_173 : decode cX12_sift 173 = .ok (.iconst 0, 1) := by decide +kernel
theorem dX12_sift_174 : decode cX12_sift 174 = .ok (.ireturn, 1) := by decide +kernel
theorem dX12_heap_0 : decode cX12_heap 0 = .ok (.aload_n 0, 1) := by decide +kernel
theorem dX12_heap_1 : decode cX12_heap 1 = .ok (.getfield 19, 3) := by decide +kernel
theorem dX12_heap_4 : decode cX12_heap 4 = .ok (.iload_n 1, 1) := by decide +kernel
theorem dX12_heap_5 : decode cX12_heap 5 = .ok (.iaload, 1) := by decide +kernel
theorem dX12_heap_6 : decode cX12_heap 6 = .ok (.istore_n 2, 1) := by decide +kernel
theorem dX12_heap_7 : decode cX12_heap 7 = .ok (.iconst 0, 1) := by decide +kernel
theorem dX12_heap_8 : decode cX12_heap 8 = .ok (.istore_n 3, 1) := by decide +kernel
theorem dX12_heap_9 : decode cX12_heap 9 = .ok (.iload_n 3, 1) := by decide +kernel
theorem dX12_heap_10 : decode cX12_heap 10 = .ok (.sipush 144, 3) := by decide +kernel
theorem dX12_heap_13 : decode cX12_heap 13 = .ok (.if_icmp .ge 16, 3) := by decide +kernel
theorem dX12_heap_16 : decode cX12_heap 16 = .ok (.aload_n 0, 1) := by decide +kernel
theorem dX12_heap_17 : decode cX12_heap 17 = .ok (.getfield 47, 3) := by decide +kernel
theorem dX12_heap_20 : decode cX12_heap 20 = .ok (.iload_n 3, 1) := by decide +kernel
theorem dX12_heap_21 : decode cX12_heap 21 = .ok (.iconst 0, 1) := by decide +kernel
theorem dX12_heap_22 : decode cX12_heap 22 = .ok (.bastore, 1) := by decide +kernel
theorem dX12_heap_23 : decode cX12_heap 23 = .ok (.iinc 3 1, 3) := by decide +kernel
theorem dX12_heap_26 : decode cX12_heap 26 = .ok (.goto (-17), 3) := by decide +kernel
theorem dX12_heap_29 : decode cX12_heap 29 = .ok (.iconst 0, 1) := by decide +kernel
theorem dX12_heap_30 : decode cX12_heap 30 = .ok (.istore_n 3, 1) := by decide +kernel
theorem dX12_heap_31 : decode cX12_heap 31 = .ok (.iload_n 3, 1) := by decide +kernel
theorem dX12_heap_32 : decode cX12_heap 32 = .ok (.aload_n 0, 1) := by decide +kernel
theorem dX12_heap_33 : decode cX12_heap 33 = .ok (.getfield 22, 3) := by decide +kernel
theorem dX12_heap_36 : decode cX12_heap 36 = .ok (.iload_n 1, 1) := by decide +kernel
theorem dX12_heap_37 : decode cX12_heap 37 = .ok (.iaload, 1) := by decide +kernel
theorem dX12_heap_38 : decode cX12_heap 38 = .ok (.if_icmp .ge 46, 3) := by decide +kernel
theorem dX12_heap_41 : decode cX12_heap 41 = .ok (.iconst 0, 1) := by decide +kernel
theorem dX12_heap_42 : decode cX12_heap 42 = .ok (.istore 4, 2) := by decide +kernel
theorem dX12_heap_44 : decode cX12_heap 44 = .ok (.iload 4, 2) := by decide +kernel
theorem dX12_heap_46 : decode cX12_heap 46 = .ok (.iload_n 2, 1) := by decide +kernel
theorem dX12_heap_47 : decode cX12_heap 47 = .ok (.if_icmp .ge 24, 3) := by decide +kernel
theorem dX12_heap_50 : decode cX12_heap 50 = .ok (.aload_n 0, 1) := by decide +kernel
theorem dX12_heap_51 : decode cX12_heap 51 = .ok (.getfield 53, 3) := by decide +kernel
theorem dX12_heap_54 : decode cX12_heap 54 = .ok (.iload 4, 2) := by decide +kernel
theorem dX12_heap_56 : decode cX12_heap 56 = .ok (.aload_n 0, 1) := by decide +kernel
theorem dX12_heap_57 : decode cX12_heap 57 = .ok (.iload_n 1, 1) := by decide +kernel
theorem dX12_heap_58 : decode cX12_heap 58 = .ok (.iload_n 3, 1) := by decide +kernel
theorem dX12_heap_59 : decode cX12_heap 59 = .ok (.iload 4, 2) := by decide +kernel
theorem dX12_heap_61 : decode cX12_heap 61 = .ok (.invokevirtual 105, 3) := by decide +kernel
theorem dX12_heap_64 : decode cX12_heap 64 = .ok (.iastore, 1) := by decide +kernel
theorem dX12_heap_65 : decode cX12_heap 65 = .ok (.iinc 4 1, 3) := by decide +kernel
theorem dX12_heap_68 : decode cX12_heap 68 = .ok (.goto (-24), 3) := by decide +kernel
theorem dX12_heap_71 : decode cX12_heap 71 = .ok (.aload_n 0, 1) := by decide +kernel
theorem dX12_heap_72 : decode cX12_heap 72 = .ok (.iload_n 2, 1) := by decide +kernel
theorem dX12_heap_73 : decode cX12_heap 73 = .ok (.invokevirtual 168, 3) := by decide +kernel
theorem dX12_heap_76 : decode cX12_heap 76 = .ok (.istore 4, 2) := by decide +kernel
theorem dX12_heap_78 : decode cX12_heap 78 = .ok (.iinc 3 1, 3) := by decide +kernel
theorem dX12_heap_81 : decode cX12_heap 81 = .ok (.goto (-50), 3) := by decide +kernel
theorem dX12_heap_84 : decode cX12_heap 84 = .ok (.iconst 1, 1) := by decide +kernel
theorem dX12_heap_85 : decode cX12_heap 85 = .ok (.istore_n 3, 1) := by decide +kernel
theorem dX12_heap_86 : decode cX12_heap 86 = .ok (.iload_n 3, 1) := by decide +kernel
theorem dX12_heap_87 : decode cX12_heap 87 = .ok (.ifCond .eq 126, 3) := by decide +kernel
theorem dX12_heap_90 : decode cX12_heap 90 = .ok (.iconst 0, 1) := by decide +kernel
theorem dX12_heap_91 : decode cX12_heap 91 = .ok (.istore_n 3, 1) := by decide +kernel
theorem dX12_heap_92 : decode cX12_heap 92 = .ok (.iconst 0, 1) := by decide +kernel
theorem dX12_heap_93 : decode cX12_heap 93 = .ok (.istore 4, 2) := by decide +kernel
theorem dX12_heap_95 : decode cX12_heap 95 = .ok (.iload 4, 2) := by decide +kernel
theorem dX12_heap_97 : decode cX12_heap 97 = .ok (.sipush 144, 3) := by decide +kernel
theorem dX12_heap_100 : decode cX12_heap 100 = .ok (.if_icmp .ge 110, 3) := by decide +kernel
theorem dX12_heap_103 : decode cX12_heap 103 = .ok (.iconst 0, 1) := by decide +kernel
theorem dX12_heap_104 : decode cX12_heap 104 = .ok (.istore 5, 2) := by decide +kernel
theorem dX12_heap_106 : decode cX12_heap 106 = .ok (.iload 5, 2) := by decide +kernel
theorem dX12_heap_108 : decode cX12_heap 108 = .ok (.sipush 144, 3) := by decide +kernel
theorem dX12_heap_111 : decode cX12_heap 111 = .ok (.if_icmp .ge 93, 3) := by decide +kernel
theorem dX12_heap_114 : decode cX12_heap 114 = .ok (.aload_n 0, 1) := by decide +kernel
theorem dX12_heap_115 : decode cX12_heap 115 = .ok (.getfield 47, 3) := by decide +kernel
theorem dX12_heap_118 : decode cX12_heap 118 = .ok (.iload 4, 2) := by decide +kernel
theorem dX12_heap_120 : decode cX12_heap 120 = .ok (.baload, 1) := by decide +kernel
theorem dX12_heap_121 : decode cX12_heap 121 = .ok (.ifCond .eq 83, 3) := by decide +kernel
theorem dX12_heap_124 : decode cX12_heap 124 = .ok (.aload_n 0, 1) := by decide +kernel
theorem dX12_heap_125 : decode cX12_heap 125 = .ok (.getfield 47, 3) := by decide +kernel
theorem dX12_heap_128 : decode cX12_heap 128 = .ok (.iload 5, 2) := by decide +kernel
theorem dX12_heap_130 : decode cX12_heap 130 = .ok (.baload, 1) := by decide +kernel
theorem dX12_heap_131 : decode cX12_heap 131 = .ok (.ifCond .eq 67, 3) := by decide +kernel
theorem dX12_heap_134 : decode cX12_heap 134 = .ok (.iconst 0, 1) := by decide +kernel
theorem dX12_heap_135 : decode cX12_heap 135 = .ok (.istore 6, 2) := by decide +kernel
theorem dX12_heap_137 : decode cX12_heap 137 = .ok (.iload 6, 2) := by decide +kernel
theorem dX12_heap_139 : decode cX12_heap 139 = .ok (.iload_n 2, 1) := by decide +kernel
theorem dX12_heap_140 : decode cX12_heap 140 = .ok (.if_icmp .ge 40, 3) := by decide +kernel
theorem dX12_heap_143 : decode cX12_heap 143 = .ok (.aload_n 0, 1) := by decide +kernel
theorem dX12_heap_144 : decode cX12_heap 144 = .ok (.getfield 53, 3) := by decide +kernel
theorem dX12_heap_147 : decode cX12_heap 147 = .ok (.iload 6, 2) := by decide +kernel
theorem dX12_heap_149 : decode cX12_heap 149 = .ok (.aload_n 0, 1) := by decide +kernel
theorem dX12_heap_150 : decode cX12_heap 150 = .ok (.getfield 50, 3) := by decide +kernel
theorem dX12_heap_153 : decode cX12_heap 153 = .ok (.bipush 12, 2) := by decide +kernel
theorem dX12_heap_155 : decode cX12_heap 155 = .ok (.iload 5, 2) := by decide +kernel
theorem dX12_heap_157 : decode cX12_heap 157 = .ok (.imul, 1) := by decide +kernel
theorem dX12_heap_158 : decode cX12_heap 158 = .ok (.aload_n 0, 1) := by decide +kernel
theorem dX12_heap_159 : decode cX12_heap 159 = .ok (.getfield 50, 3) := by decide +kernel
theorem dX12_heap_162 : decode cX12_heap 162 = .ok (.bipush 12, 2) := by decide +kernel
theorem dX12_heap_164 : decode cX12_heap 164 = .ok (.iload 4, 2) := by decide +kernel
theorem dX12_heap_166 : decode cX12_heap 166 = .ok (.imul, 1) := by decide +kernel
theorem dX12_heap_167 : decode cX12_heap 167 = .ok (.iload 6, 2) := by decide +kernel
theorem dX12_heap_169 : decode cX12_heap 169 = .ok (.iadd, 1) := by decide +kernel
theorem dX12_heap_170 : decode cX12_heap 170 = .ok (.iaload, 1) := by decide +kernel
theorem dX12_heap_171 : decode cX12_heap 171 = .ok (.iadd, 1) := by decide +kernel
theorem dX12_heap_172 : decode cX12_heap 172 = .ok (.iaload, 1) := by decide +kernel
theorem dX12_heap_173 : decode cX12_heap 173 = .ok (.iastore, 1) := by decide +kernel
theorem dX12_heap_174 : decode cX12_heap 174 = .ok (.iinc 6 1, 3) := by decide +kernel
theorem dX12_heap_177 : decode cX12_heap 177 = .ok (.goto (-40), 3) := by decide +kernel
theorem dX12_heap_180 : decode cX12_heap 180 = .ok (.aload_n 0, 1) := by decide +kernel
theorem dX12_heap_181 : decode cX12_heap 181 = .ok (.iload_n 2, 1) := by decide +kernel
theorem dX12_heap_182 : decode cX12_heap 182 = .ok (.invokevirtual 168, 3) := by decide +kernel
theorem dX12_heap_185 : decode cX12_heap 185 = .ok (.ifCond .ne 7, 3) := by decide +kernel
theorem dX12_heap_188 : decode cX12_heap 188 = .ok (.iload_n 3, 1) := by decide +kernel
theorem dX12_heap_189 : decode cX12_heap 189 = .ok (.ifCond .eq 7, 3) := by decide +kernel
theorem dX12_heap_192 : decode cX12_heap 192 = .ok (.iconst 1, 1) := by decide +kernel
theorem dX12_heap_193 : decode cX12_heap 193 = .ok (.goto 4, 3) := by decide +kernel
theorem dX12_heap_196 : decode cX12_heap 196 = .ok (.iconst 0, 1) := by decide +kernel
theorem dX12_heap_197 : decode cX12_heap 197 = .ok (.istore_n 3, 1) := by decide +kernel
theorem dX12_heap_198 : decode cX12_heap 198 = .ok (.iinc 5 1, 3) := by decide +kernel
theorem dX12_heap_201 : decode cX12_heap 201 = .ok (.goto (-95), 3) := by decide +kernel
theorem dX12_heap_204 : decode cX12_heap 204 = .ok (.iinc 4 1, 3) := by decide +kernel
theorem dX12_heap_207 : decode cX12_heap 207 = .ok (.goto (-112), 3) := by decide +kernel
theorem dX12_heap_210 : decode cX12_heap 210 = .ok (.goto (-124), 3) := by decide +kernel
theorem dX12_heap_213 : decode cX12_heap 213 = .ok (.iconst 1, 1) := by decide +kernel
theorem dX12_heap_214 : decode cX12_heap 214 = .ok (.istore 4, 2) := by decide +kernel
theorem dX12_heap_216 : decode cX12_heap 216 = .ok (.iconst 0, 1) := by decide +kernel
theorem dX12_heap_217 : decode cX12_heap 217 = .ok (.istore 5, 2) := by decide +kernel
theorem dX12_heap_219 : decode cX12_heap 219 = .ok (.iload 5, 2) := by decide +kernel
theorem dX12_heap_221 : decode cX12_heap 221 = .ok (.iload_n 2, 1) := by decide +kernel
theorem dX12_heap_222 : decode cX12_heap 222 = .ok (.if_icmp .ge 60, 3) := by decide +kernel
theorem dX12_heap_225 : decode cX12_heap 225 = .ok (.iconst 1, 1) := by decide +kernel
theorem dX12_heap_226 : decode cX12_heap 226 = .ok (.istore 6, 2) := by decide +kernel
theorem dX12_heap_228 : decode cX12_heap 228 = .ok (.iconst 0, 1) := by decide +kernel
theorem dX12_heap_229 : decode cX12_heap 229 = .ok (.istore 7, 2) := by decide +kernel
theorem dX12_heap_231 : decode cX12_heap 231 = .ok (.iload 7, 2) := by decide +kernel
theorem dX12_heap_233 : decode cX12_heap 233 = .ok (.iload_n 2, 1) := by decide +kernel
theorem dX12_heap_234 : decode cX12_heap 234 = .ok (.if_icmp .ge 35, 3) := by decide +kernel
theorem dX12_heap_237 : decode cX12_heap 237 = .ok (.iload 6, 2) := by decide +kernel
theorem dX12_heap_239 : decode cX12_heap 239 = .ok (.aload_n 0, 1) := by decide +kernel
theorem dX12_heap_240 : decode cX12_heap 240 = .ok (.getfield 47, 3) := by decide +kernel
theorem dX12_heap_243 : decode cX12_heap 243 = .ok (.bipush 12, 2) := by decide +kernel
theorem dX12_heap_245 : decode cX12_heap 245 = .ok (.iload 5, 2) := by decide +kernel
theorem dX12_heap_247 : decode cX12_heap 247 = .ok (.imul, 1) := by decide +kernel
theorem dX12_heap_248 : decode cX12_heap 248 = .ok (.iload 7, 2) := by decide +kernel
theorem dX12_heap_250 : decode cX12_heap 250 = .ok (.iadd, 1) := by decide +kernel
theorem dX12_heap_251 : decode cX12_heap 251 = .ok (.baload, 1) := by decide +kernel
theorem dX12_heap_252 : decode cX12_heap 252 = .ok (.ifCond .eq 7, 3) := by decide +kernel
theorem dX12_heap_255 : decode cX12_heap 255 = .ok (.iconst 1, 1) := by decide +kernel
theorem dX12_heap_256 : decode cX12_heap 256 = .ok (.goto 4, 3) := by decide +kernel
theorem dX12_heap_259 : decode cX12_heap 259 = .ok (.iconst 0, 1) := by decide +kernel
theorem dX12_heap_260 : decode cX12_heap 260 = .ok (.iadd, 1) := by decide +kernel
theorem dX12_heap_261 : decode cX12_heap 261 = .ok (.istore 6, 2) := by decide +kernel
theorem dX12_heap_263 : decode cX12_heap 263 = .ok (.iinc 7 1, 3) := by decide +kernel
theorem dX12_heap_266 : decode cX12_heap 266 = .ok (.goto (-35), 3) := by decide +kernel
theorem dX12_heap_269 : decode cX12_heap 269 = .ok (.iload 4, 2) := by decide +kernel
theorem dX12_heap_271 : decode cX12_heap 271 = .ok (.iload 6, 2) := by decide +kernel
theorem dX12_heap_273 : decode cX12_heap 273 = .ok (.imul, 1) := by decide +kernel
theorem dX12_heap_274 : decode cX12_heap 274 = .ok (.istore 4, 2) := by decide +kernel
theorem dX12_heap_276 : decode cX12_heap 276 = .ok (.iinc 5 1, 3) := by decide +kernel
theorem dX12_heap_279 : decode cX12_heap 279 = .ok (.goto (-60), 3) := by decide +kernel
theorem dX12_heap_282 : decode cX12_heap 282 = .ok (.iload 4, 2) := by decide +kernel
theorem dX12_heap_284 : decode cX12_heap 284 = .ok (.ireturn, 1) := by decide +kernel
theorem dX12_told_0 : decode cX12_told 0 = .ok (.aload_n 0, 1) := by decide +kernel
theorem dX12_told_1 : decode cX12_told 1 = .ok (.iconst 0, 1) := by decide +kernel
theorem dX12_told_2 : decode cX12_told 2 = .ok (.putfield 78, 3) := by decide +kernel
theorem dX12_told_5 : decode cX12_told 5 = .ok (.iload_n 1, 1) := by decide +kernel
theorem dX12_told_6 : decode cX12_told 6 = .ok (.invokestatic 120, 3) := by decide +kernel
theorem dX12_told_9 : decode cX12_told 9 = .ok (.ifCond .eq 15, 3) := by decide +kernel
theorem dX12_told_12 : decode cX12_told 12 = .ok (.iload_n 2, 1) := by decide +kernel
theorem dX12_told_13 : decode cX12_told 13 = .ok (.i2l, 1) := by decide +kernel
theorem dX12_told_14 : decode cX12_told 14 = .ok (.lconst 0, 1) := by decide +kernel
theorem dX12_told_15 : decode cX12_told 15 = .ok (.ldc2_w 171, 3) := by decide +kernel
theorem dX12_told_18 : decode cX12_told 18 = .ok (.invokestatic 88, 3) := by decide +kernel
theorem dX12_told_21 : decode cX12_told 21 = .ok (.ifCond .ne 6, 3) := by decide +kernel
theorem dX12_told_24 : decode cX12_told 24 = .ok (.ldc 98, 2) := by decide +kernel
theorem dX12_told_26 : decode cX12_told 26 = .ok (.ireturn, 1) := by decide +kernel
theorem dX12_told_27 : decode cX12_told 27 = .ok (.aload_n 0, 1) := by decide +kernel
theorem dX12_told_28 : decode cX12_told 28 = .ok (.iload_n 1, 1) := by decide +kernel
theorem dX12_told_29 : decode cX12_told 29 = .ok (.iload_n 2, 1) := by decide +kernel
theorem dX12_told_30 : decode cX12_told 30 = .ok (.iconst 3, 1) := by decide +kernel
theorem dX12_told_31 : decode cX12_told 31 = .ok (.if_icmp .eq 8, 3) := by decide +kernel
theorem dX12_told_34 : decode cX12_told 34 = .ok (.iload_n 2, 1) := by decide +kernel
theorem dX12_told_35 : decode cX12_told 35 = .ok (.iconst 4, 1) := by decide +kernel
theorem dX12_told_36 : decode cX12_told 36 = .ok (.if_icmp .ne 7, 3) := by decide +kernel
theorem dX12_told_39 : decode cX12_told 39 = .ok (.iconst 1, 1) := by decide +kernel
theorem dX12_told_40 : decode cX12_told 40 = .ok (.goto 4, 3) := by decide +kernel
theorem dX12_told_43 : decode cX12_told 43 = .ok (.iconst 0, 1) := by decide +kernel
theorem dX12_told_44 : decode cX12_told 44 = .ok (.invokevirtual 137, 3) := by decide +kernel
theorem dX12_told_47 : decode cX12_told 47 = .ok (.istore_n 3, 1) := by decide +kernel
theorem dX12_told_48 : decode cX12_told 48 = .ok (.iload_n 3, 1) := by decide +kernel
theorem dX12_told_49 : decode cX12_told 49 = .ok (.ifCond .ge 5, 3) := by decide +kernel
theorem dX12_told_52 : decode cX12_told 52 = .ok (.iload_n 3, 1) := by decide +kernel
theorem dX12_told_53 : decode cX12_told 53 = .ok (.ireturn, 1) := by decide +kernel
theorem dX12_told_54 : decode cX12_told 54 = .ok (.aload_n 0, 1) := by decide +kernel
theorem dX12_told_55 : decode cX12_told 55 = .ok (.getfield 19, 3) := by decide +kernel
theorem dX12_told_58 : decode cX12_told 58 = .ok (.iload_n 1, 1) := by decide +kernel
theorem dX12_told_59 : decode cX12_told 59 = .ok (.iaload, 1) := by decide +kernel
theorem dX12_told_60 : decode cX12_told 60 = .ok (.istore 4, 2) := by decide +kernel
theorem dX12_told_62 : decode cX12_told 62 = .ok (.iload_n 2, 1) := by decide +kernel
theorem dX12_told_63 : decode cX12_told 63 = .ok (.iconst 3, 1) := by decide +kernel
theorem dX12_told_64 : decode cX12_told 64 = .ok (.if_icmp .ne 51, 3) := by decide +kernel
theorem dX12_told_67 : decode cX12_told 67 = .ok (.iconst 2, 1) := by decide +kernel
theorem dX12_told_68 : decode cX12_told 68 = .ok (.iconst 2, 1) := by decide +kernel
theorem dX12_told_69 : decode cX12_told 69 = .ok (.iload 4, 2) := by decide +kernel
theorem dX12_told_71 : decode cX12_told 71 = .ok (.imul, 1) := by decide +kernel
theorem dX12_told_72 : decode cX12_told 72 = .ok (.isub, 1) := by decide +kernel
theorem dX12_told_73 : decode cX12_told 73 = .ok (.istore 5, 2) := by decide +kernel
theorem dX12_told_75 : decode cX12_told 75 = .ok (.iconst 0, 1) := by decide +kernel
theorem dX12_told_76 : decode cX12_told 76 = .ok (.istore 6, 2) := by decide +kernel
theorem dX12_told_78 : decode cX12_told 78 = .ok (.iload 6, 2) := by decide +kernel
theorem dX12_told_80 : decode cX12_told 80 = .ok (.aload_n 0, 1) := by decide +kernel
theorem dX12_told_81 : decode cX12_told 81 = .ok (.getfield 22, 3) := by decide +kernel
theorem dX12_told_84 : decode cX12_told 84 = .ok (.iload_n 1, 1) := by decide +kernel
theorem dX12_told_85 : decode cX12_told 85 = .ok (.iaload, 1) := by decide +kernel
theorem dX12_told_86 : decode cX12_told 86 = .ok (.if_icmp .ge 24, 3) := by decide +kernel
theorem dX12_told_89 : decode cX12_told 89 = .ok (.iload 5, 2) := by decide +kernel
theorem dX12_told_91 : decode cX12_told 91 = .ok (.iload 4, 2) := by decide +kernel
theorem dX12_told_93 : decode cX12_told 93 = .ok (.aload_n 0, 1) := by decide +kernel
theorem dX12_told_94 : decode cX12_told 94 = .ok (.iload_n 1, 1) := by decide +kernel
theorem dX12_told_95 : decode cX12_told 95 = .ok (.iload 6, 2) := by decide +kernel
theorem dX12_told_97 : decode cX12_told 97 = .ok (.invokevirtual 109, 3) := by decide +kernel
theorem dX12_told_100 : decode cX12_told 100 = .ok (.isub, 1) := by decide +kernel
theorem dX12_told_101 : decode cX12_told 101 = .ok (.iadd, 1) := by decide +kernel
theorem dX12_told_102 : decode cX12_told 102 = .ok (.istore 5, 2) := by decide +kernel
theorem dX12_told_104 : decode cX12_told 104 = .ok (.iinc 6 1, 3) := by decide +kernel
theorem dX12_told_107 : decode cX12_told 107 = .ok (.goto (-29), 3) := by decide +kernel
theorem dX12_told_110 : decode cX12_told 110 = .ok (.iload 5, 2) := by decide +kernel
theorem dX12_told_112 : decode cX12_told 112 = .ok (.iconst 2, 1) := by decide +kernel
theorem dX12_told_113 : decode cX12_told 113 = .ok (.idiv, 1) := by decide +kernel
theorem dX12_told_114 : decode cX12_told 114 = .ok (.ireturn, 1) := by decide +kernel
theorem dX12_told_115 : decode cX12_told 115 = .ok (.iload_n 2, 1) := by decide +kernel
theorem dX12_told_116 : decode cX12_told 116 = .ok (.ifCond .ne 8, 3) := by decide +kernel
theorem dX12_told_119 : decode cX12_told 119 = .ok (.iload 4, 2) := by decide +kernel
theorem dX12_told_121 : decode cX12_told 121 = .ok (.goto 50, 3) := by decide +kernel
theorem dX12_told_124 : decode cX12_told 124 = .ok (.iload_n 2, 1) := by decide +kernel
theorem dX12_told_125 : decode cX12_told 125 = .ok (.iconst 1, 1) := by decide +kernel
theorem dX12_told_126 : decode cX12_told 126 = .ok (.if_icmp .ne 12, 3) := by decide +kernel
theorem dX12_told_129 : decode cX12_told 129 = .ok (.aload_n 0, 1) := by decide +kernel
theorem dX12_told_130 : decode cX12_told 130 = .ok (.getfield 22, 3) := by decide +kernel
theorem dX12_told_133 : decode cX12_told 133 = .ok (.iload_n 1, 1) := by decide +kernel
theorem dX12_told_134 : decode cX12_told 134 = .ok (.iaload, 1) := by decide +kernel
theorem dX12_told_135 : decode cX12_told 135 = .ok (.goto 36, 3) := by decide +kernel
theorem dX12_told_138 : decode cX12_told 138 = .ok (.iload_n 2, 1) := by decide +kernel
theorem dX12_told_139 : decode cX12_told 139 = .ok (.iconst 2, 1) := by decide +kernel
theorem dX12_told_140 : decode cX12_told 140 = .ok (.if_icmp .ne 11, 3) := by decide +kernel
theorem dX12_told_143 : decode cX12_told 143 = .ok (.aload_n 0, 1) := by decide +kernel
theorem dX12_told_144 : decode cX12_told 144 = .ok (.iload_n 1, 1) := by decide +kernel
theorem dX12_told_145 : decode cX12_told 145 = .ok (.invokevirtual 134, 3) := by decide +kernel
theorem dX12_told_148 : decode cX12_told 148 = .ok (.goto 23, 3) := by decide +kernel
theorem dX12_told_151 : decode cX12_told 151 = .ok (.iload_n 2, 1) := by decide +kernel
theorem dX12_told_152 : decode cX12_told 152 = .ok (.iconst 4, 1) := by decide +kernel
theorem dX12_told_153 : decode cX12_told 153 = .ok (.if_icmp .ne 13, 3) := by decide +kernel
theorem dX12_told_156 : decode cX12_told 156 = .ok (.aload_n 0, 1) := by decide +kernel
theorem dX12_told_157 : decode cX12_told 157 = .ok (.bipush 10, 2) := by decide +kernel
theorem dX12_told_159 : decode cX12_told 159 = .ok (.iload_n 1, 1) := by decide +kernel
theorem dX12_told_160 : decode cX12_told 160 = .ok (.invokevirtual 148, 3) := by decide +kernel
theorem dX12_told_163 : decode cX12_told 163 = .ok (.goto 8, 3) := by decide +kernel
theorem dX12_told_166 : decode cX12_told 166 = .ok (.aload_n 0, 1) := by decide +kernel
theorem dX12_told_167 : decode cX12_told 167 = .ok (.iload_n 1, 1) := by decide +kernel
theorem dX12_told_168 : decode cX12_told 168 = .ok (.invokevirtual 173, 3) := by decide +kernel
theorem dX12_told_171 : decode cX12_told 171 = .ok (.ireturn, 1) := by decide +kernel
theorem dX12_leads_0 : decode cX12_leads 0 = .ok (.aload_n 0, 1) := by decide +kernel
theorem dX12_leads_1 : decode cX12_leads 1 = .ok (.iconst 0, 1) := by decide +kernel
theorem dX12_leads_2 : decode cX12_leads 2 = .ok (.putfield 78, 3) := by decide +kernel
theorem dX12_leads_5 : decode cX12_leads 5 = .ok (.iload_n 1, 1) := by decide +kernel
theorem dX12_leads_6 : decode cX12_leads 6 = .ok (.invokestatic 120, 3) := by decide +kernel
theorem dX12_leads_9 : decode cX12_leads 9 = .ok (.ifCond .ne 6, 3) := by decide +kernel
theorem dX12_leads_12 : decode cX12_leads 12 = .ok (.ldc 98, 2) := by decide +kernel
theorem dX12_leads_14 : decode cX12_leads 14 = .ok (.ireturn, 1) := by decide +kernel
theorem dX12_leads_15 : decode cX12_leads 15 = .ok (.aload_n 0, 1) := by decide +kernel
theorem dX12_leads_16 : decode cX12_leads 16 = .ok (.getfield 82, 3) := by decide +kernel
theorem dX12_leads_19 : decode cX12_leads 19 = .ok (.istore 4, 2) := by decide +kernel
theorem dX12_leads_21 : decode cX12_leads 21 = .ok (.aload_n 0, 1) := by decide +kernel
theorem dX12_leads_22 : decode cX12_leads 22 = .ok (.iload_n 1, 1) := by decide +kernel
theorem dX12_leads_23 : decode cX12_leads 23 = .ok (.iconst 0, 1) := by decide +kernel
theorem dX12_leads_24 : decode cX12_leads 24 = .ok (.invokevirtual 137, 3) := by decide +kernel
theorem dX12_leads_27 : decode cX12_leads 27 = .ok (.istore 5, 2) := by decide +kernel
theorem dX12_leads_29 : decode cX12_leads 29 = .ok (.iload 5, 2) := by decide +kernel
theorem dX12_leads_31 : decode cX12_leads 31 = .ok (.ifCond .ge 6, 3) := by decide +kernel
theorem dX12_leads_34 : decode cX12_leads 34 = .ok (.iload 5, 2) := by decide +kernel
theorem dX12_leads_36 : decode cX12_leads 36 = .ok (.ireturn, 1) := by decide +kernel
theorem dX12_leads_37 : decode cX12_leads 37 = .ok (.iload_n 2, 1) := by decide +kernel
theorem dX12_leads_38 : decode cX12_leads 38 = .ok (.i2l, 1) := by decide +kernel
theorem dX12_leads_39 : decode cX12_leads 39 = .ok (.lconst 0, 1) := by decide +kernel
theorem dX12_leads_40 : decode cX12_leads 40 = .ok (.aload_n 0, 1) := by decide +kernel
theorem dX12_leads_41 : decode cX12_leads 41 = .ok (.getfield 22, 3) := by decide +kernel
theorem dX12_leads_44 : decode cX12_leads 44 = .ok (.iload_n 1, 1) := by decide +kernel
theorem dX12_leads_45 : decode cX12_leads 45 = .ok (.iaload, 1) := by decide +kernel
theorem dX12_leads_46 : decode cX12_leads 46 = .ok (.iconst 1, 1) := by decide +kernel
theorem dX12_leads_47 : decode cX12_leads 47 = .ok (.isub, 1) := by decide +kernel
theorem dX12_leads_48 : decode cX12_leads 48 = .ok (.i2l, 1) := by decide +kernel
