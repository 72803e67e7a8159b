theorem dL_match_182 : decode cL_match 182 = .ok (.istore 4, 2) := by decide +kernel
theorem dL_match_184 : decode cL_match 184 = .ok (.goto 53, 3) := by decide +kernel
theorem dL_match_187 : decode cL_match 187 = .ok (.iload 4, 2) := by decide +kernel
theorem dL_match_189 : decode cL_match 189 = .ok (.aload_n 0, 1) := by decide +kernel
theorem dL_match_190 : decode cL_match 190 = .ok (.iconst 4, 1) := by decide +kernel
theorem dL_match_191 : decode cL_match 191 = .ok (.iaload, 1) := by decide +kernel
theorem dL_match_192 : decode cL_match 192 = .ok (.if_icmp .ge 45, 3) := by decide +kernel
theorem dL_match_195 : decode cL_match 195 = .ok (.iconst 0, 1) := by decide +kernel
theorem dL_match_196 : decode cL_match 196 = .ok (.istore 8, 2) := by decide +kernel
theorem dL_match_198 : decode cL_match 198 = .ok (.iload 8, 2) := by decide +kernel
theorem dL_match_200 : decode cL_match 200 = .ok (.aload_n 0, 1) := by decide +kernel
theorem dL_match_201 : decode cL_match 201 = .ok (.iconst 3, 1) := by decide +kernel
theorem dL_match_202 : decode cL_match 202 = .ok (.iaload, 1) := by decide +kernel
theorem dL_match_203 : decode cL_match 203 = .ok (.if_icmp .ge 31, 3) := by decide +kernel
theorem dL_match_206 : decode cL_match 206 = .ok (.aload_n 3, 1) := by decide +kernel
theorem dL_match_207 : decode cL_match 207 = .ok (.iconst 3, 1) := by decide +kernel
theorem dL_match_208 : decode cL_match 208 = .ok (.iload 4, 2) := by decide +kernel
theorem dL_match_210 : decode cL_match 210 = .ok (.imul, 1) := by decide +kernel
theorem dL_match_211 : decode cL_match 211 = .ok (.iload 8, 2) := by decide +kernel
theorem dL_match_213 : decode cL_match 213 = .ok (.iadd, 1) := by decide +kernel
theorem dL_match_214 : decode cL_match 214 = .ok (.aload_n 0, 1) := by decide +kernel
theorem dL_match_215 : decode cL_match 215 = .ok (.aload_n 1, 1) := by decide +kernel
theorem dL_match_216 : decode cL_match 216 = .ok (.iload 8, 2) := by decide +kernel
theorem dL_match_218 : decode cL_match 218 = .ok (.iload 5, 2) := by decide +kernel
theorem dL_match_220 : decode cL_match 220 = .ok (.iload 6, 2) := by decide +kernel
theorem dL_match_222 : decode cL_match 222 = .ok (.iload 7, 2) := by decide +kernel
theorem dL_match_224 : decode cL_match 224 = .ok (.invokestatic 279, 3) := by decide +kernel
theorem dL_match_227 : decode cL_match 227 = .ok (.iastore, 1) := by decide +kernel
theorem dL_match_228 : decode cL_match 228 = .ok (.iinc 8 1, 3) := by decide +kernel
theorem dL_match_231 : decode cL_match 231 = .ok (.goto (-33), 3) := by decide +kernel
theorem dL_match_234 : decode cL_match 234 = .ok (.iinc 4 1, 3) := by decide +kernel
theorem dL_match_237 : decode cL_match 237 = .ok (.iinc 7 1, 3) := by decide +kernel
theorem dL_match_240 : decode cL_match 240 = .ok (.goto (-138), 3) := by decide +kernel
theorem dL_match_243 : decode cL_match 243 = .ok (.iinc 6 1, 3) := by decide +kernel
theorem dL_match_246 : decode cL_match 246 = .ok (.goto (-192), 3) := by decide +kernel
theorem dL_match_249 : decode cL_match 249 = .ok (.iinc 5 1, 3) := by decide +kernel
theorem dL_match_252 : decode cL_match 252 = .ok (.goto (-225), 3) := by decide +kernel
theorem dL_match_255 : decode cL_match 255 = .ok (.aload_n 0, 1) := by decide +kernel
theorem dL_match_256 : decode cL_match 256 = .ok (.iconst 5, 1) := by decide +kernel
theorem dL_match_257 : decode cL_match 257 = .ok (.iaload, 1) := by decide +kernel
theorem dL_match_258 : decode cL_match 258 = .ok (.iconst 1, 1) := by decide +kernel
theorem dL_match_259 : decode cL_match 259 = .ok (.if_icmp .ne 17, 3) := by decide +kernel
theorem dL_match_262 : decode cL_match 262 = .ok (.iload 4, 2) := by decide +kernel
theorem dL_match_264 : decode cL_match 264 = .ok (.aload_n 0, 1) := by decide +kernel
theorem dL_match_265 : decode cL_match 265 = .ok (.iconst 4, 1) := by decide +kernel
theorem dL_match_266 : decode cL_match 266 = .ok (.iaload, 1) := by decide +kernel
theorem dL_match_267 : decode cL_match 267 = .ok (.if_icmp .le 9, 3) := by decide +kernel
theorem dL_match_270 : decode cL_match 270 = .ok (.aload_n 0, 1) := by decide +kernel
theorem dL_match_271 : decode cL_match 271 = .ok (.iconst 4, 1) := by decide +kernel
theorem dL_match_272 : decode cL_match 272 = .ok (.iaload, 1) := by decide +kernel
theorem dL_match_273 : decode cL_match 273 = .ok (.goto 5, 3) := by decide +kernel
theorem dL_match_276 : decode cL_match 276 = .ok (.iload 4, 2) := by decide +kernel
theorem dL_match_278 : decode cL_match 278 = .ok (.ireturn, 1) := by decide +kernel
theorem dL_seatCell_0 : decode cL_seatCell 0 = .ok (.aload_n 1, 1) := by decide +kernel
theorem dL_seatCell_1 : decode cL_seatCell 1 = .ok (.bipush 10, 2) := by decide +kernel
theorem dL_seatCell_3 : decode cL_seatCell 3 = .ok (.iload_n 2, 1) := by decide +kernel
theorem dL_seatCell_4 : decode cL_seatCell 4 = .ok (.imul, 1) := by decide +kernel
theorem dL_seatCell_5 : decode cL_seatCell 5 = .ok (.iload_n 2, 1) := by decide +kernel
theorem dL_seatCell_6 : decode cL_seatCell 6 = .ok (.ifCond .ne 8, 3) := by decide +kernel
theorem dL_seatCell_9 : decode cL_seatCell 9 = .ok (.iload 4, 2) := by decide +kernel
theorem dL_seatCell_11 : decode cL_seatCell 11 = .ok (.goto 15, 3) := by decide +kernel
theorem dL_seatCell_14 : decode cL_seatCell 14 = .ok (.iload_n 2, 1) := by decide +kernel
theorem dL_seatCell_15 : decode cL_seatCell 15 = .ok (.iconst 1, 1) := by decide +kernel
theorem dL_seatCell_16 : decode cL_seatCell 16 = .ok (.if_icmp .ne 8, 3) := by decide +kernel
theorem dL_seatCell_19 : decode cL_seatCell 19 = .ok (.iload 5, 2) := by decide +kernel
theorem dL_seatCell_21 : decode cL_seatCell 21 = .ok (.goto 5, 3) := by decide +kernel
theorem dL_seatCell_24 : decode cL_seatCell 24 = .ok (.iload 6, 2) := by decide +kernel
theorem dL_seatCell_26 : decode cL_seatCell 26 = .ok (.iadd, 1) := by decide +kernel
theorem dL_seatCell_27 : decode cL_seatCell 27 = .ok (.laload, 1) := by decide +kernel
theorem dL_seatCell_28 : decode cL_seatCell 28 = .ok (.iload_n 3, 1) := by decide +kernel
theorem dL_seatCell_29 : decode cL_seatCell 29 = .ok (.invokestatic 169, 3) := by decide +kernel
theorem dL_seatCell_32 : decode cL_seatCell 32 = .ok (.ireturn, 1) := by decide +kernel
theorem dL_linked_0 : decode cL_linked 0 = .ok (.iconst 0, 1) := by decide +kernel
theorem dL_linked_1 : decode cL_linked 1 = .ok (.istore 5, 2) := by decide +kernel
theorem dL_linked_3 : decode cL_linked 3 = .ok (.iload 5, 2) := by decide +kernel
theorem dL_linked_5 : decode cL_linked 5 = .ok (.aload_n 0, 1) := by decide +kernel
theorem dL_linked_6 : decode cL_linked 6 = .ok (.iconst 1, 1) := by decide +kernel
theorem dL_linked_7 : decode cL_linked 7 = .ok (.iaload, 1) := by decide +kernel
theorem dL_linked_8 : decode cL_linked 8 = .ok (.if_icmp .ge 80, 3) := by decide +kernel
theorem dL_linked_11 : decode cL_linked 11 = .ok (.aload_n 0, 1) := by decide +kernel
theorem dL_linked_12 : decode cL_linked 12 = .ok (.aload_n 1, 1) := by decide +kernel
theorem dL_linked_13 : decode cL_linked 13 = .ok (.aload_n 0, 1) := by decide +kernel
theorem dL_linked_14 : decode cL_linked 14 = .ok (.bipush 9, 2) := by decide +kernel
theorem dL_linked_16 : decode cL_linked 16 = .ok (.iconst 4, 1) := by decide +kernel
theorem dL_linked_17 : decode cL_linked 17 = .ok (.iload 5, 2) := by decide +kernel
theorem dL_linked_19 : decode cL_linked 19 = .ok (.imul, 1) := by decide +kernel
theorem dL_linked_20 : decode cL_linked 20 = .ok (.iadd, 1) := by decide +kernel
theorem dL_linked_21 : decode cL_linked 21 = .ok (.iaload, 1) := by decide +kernel
theorem dL_linked_22 : decode cL_linked 22 = .ok (.aload_n 0, 1) := by decide +kernel
theorem dL_linked_23 : decode cL_linked 23 = .ok (.bipush 10, 2) := by decide +kernel
theorem dL_linked_25 : decode cL_linked 25 = .ok (.iconst 4, 1) := by decide +kernel
theorem dL_linked_26 : decode cL_linked 26 = .ok (.iload 5, 2) := by decide +kernel
theorem dL_linked_28 : decode cL_linked 28 = .ok (.imul, 1) := by decide +kernel
theorem dL_linked_29 : decode cL_linked 29 = .ok (.iadd, 1) := by decide +kernel
theorem dL_linked_30 : decode cL_linked 30 = .ok (.iaload, 1) := by decide +kernel
theorem dL_linked_31 : decode cL_linked 31 = .ok (.iload_n 2, 1) := by decide +kernel
theorem dL_linked_32 : decode cL_linked 32 = .ok (.iload_n 3, 1) := by decide +kernel
theorem dL_linked_33 : decode cL_linked 33 = .ok (.iload 4, 2) := by decide +kernel
theorem dL_linked_35 : decode cL_linked 35 = .ok (.invokestatic 283, 3) := by decide +kernel
theorem dL_linked_38 : decode cL_linked 38 = .ok (.istore 6, 2) := by decide +kernel
theorem dL_linked_40 : decode cL_linked 40 = .ok (.iload 6, 2) := by decide +kernel
theorem dL_linked_42 : decode cL_linked 42 = .ok (.invokestatic 109, 3) := by decide +kernel
theorem dL_linked_45 : decode cL_linked 45 = .ok (.ifCond .eq 35, 3) := by decide +kernel
theorem dL_linked_48 : decode cL_linked 48 = .ok (.iload 6, 2) := by decide +kernel
theorem dL_linked_50 : decode cL_linked 50 = .ok (.aload_n 0, 1) := by decide +kernel
theorem dL_linked_51 : decode cL_linked 51 = .ok (.aload_n 1, 1) := by decide +kernel
theorem dL_linked_52 : decode cL_linked 52 = .ok (.aload_n 0, 1) := by decide +kernel
theorem dL_linked_53 : decode cL_linked 53 = .ok (.bipush 11, 2) := by decide +kernel
theorem dL_linked_55 : decode cL_linked 55 = .ok (.iconst 4, 1) := by decide +kernel
theorem dL_linked_56 : decode cL_linked 56 = .ok (.iload 5, 2) := by decide +kernel
theorem dL_linked_58 : decode cL_linked 58 = .ok (.imul, 1) := by decide +kernel
theorem dL_linked_59 : decode cL_linked 59 = .ok (.iadd, 1) := by decide +kernel
theorem dL_linked_60 : decode cL_linked 60 = .ok (.iaload, 1) := by decide +kernel
theorem dL_linked_61 : decode cL_linked 61 = .ok (.aload_n 0, 1) := by decide +kernel
theorem dL_linked_62 : decode cL_linked 62 = .ok (.bipush 12, 2) := by decide +kernel
theorem dL_linked_64 : decode cL_linked 64 = .ok (.iconst 4, 1) := by decide +kernel
theorem dL_linked_65 : decode cL_linked 65 = .ok (.iload 5, 2) := by decide +kernel
theorem dL_linked_67 : decode cL_linked 67 = .ok (.imul, 1) := by decide +kernel
theorem dL_linked_68 : decode cL_linked 68 = .ok (.iadd, 1) := by decide +kernel
theorem dL_linked_69 : decode cL_linked 69 = .ok (.iaload, 1) := by decide +kernel
theorem dL_linked_70 : decode cL_linked 70 = .ok (.iload_n 2, 1) := by decide +kernel
theorem dL_linked_71 : decode cL_linked 71 = .ok (.iload_n 3, 1) := by decide +kernel
theorem dL_linked_72 : decode cL_linked 72 = .ok (.iload 4, 2) := by decide +kernel
theorem dL_linked_74 : decode cL_linked 74 = .ok (.invokestatic 283, 3) := by decide +kernel
theorem dL_linked_77 : decode cL_linked 77 = .ok (.if_icmp .eq 5, 3) := by decide +kernel
theorem dL_linked_80 : decode cL_linked 80 = .ok (.iconst 0, 1) := by decide +kernel
theorem dL_linked_81 : decode cL_linked 81 = .ok (.ireturn, 1) := by decide +kernel
theorem dL_linked_82 : decode cL_linked 82 = .ok (.iinc 5 1, 3) := by decide +kernel
theorem dL_linked_85 : decode cL_linked 85 = .ok (.goto (-82), 3) := by decide +kernel
theorem dL_linked_88 : decode cL_linked 88 = .ok (.iconst 1, 1) := by decide +kernel
theorem dL_linked_89 : decode cL_linked 89 = .ok (.ireturn, 1) := by decide +kernel
theorem dL_outOf_0 : decode cL_outOf 0 = .ok (.aload_n 0, 1) := by decide +kernel
theorem dL_outOf_1 : decode cL_outOf 1 = .ok (.aload_n 1, 1) := by decide +kernel
theorem dL_outOf_2 : decode cL_outOf 2 = .ok (.aload_n 0, 1) := by decide +kernel
theorem dL_outOf_3 : decode cL_outOf 3 = .ok (.bipush 37, 2) := by decide +kernel
theorem dL_outOf_5 : decode cL_outOf 5 = .ok (.iconst 2, 1) := by decide +kernel
theorem dL_outOf_6 : decode cL_outOf 6 = .ok (.iload_n 2, 1) := by decide +kernel
theorem dL_outOf_7 : decode cL_outOf 7 = .ok (.imul, 1) := by decide +kernel
theorem dL_outOf_8 : decode cL_outOf 8 = .ok (.iadd, 1) := by decide +kernel
theorem dL_outOf_9 : decode cL_outOf 9 = .ok (.iaload, 1) := by decide +kernel
theorem dL_outOf_10 : decode cL_outOf 10 = .ok (.aload_n 0, 1) := by decide +kernel
theorem dL_outOf_11 : decode cL_outOf 11 = .ok (.bipush 38, 2) := by decide +kernel
theorem dL_outOf_13 : decode cL_outOf 13 = .ok (.iconst 2, 1) := by decide +kernel
theorem dL_outOf_14 : decode cL_outOf 14 = .ok (.iload_n 2, 1) := by decide +kernel
theorem dL_outOf_15 : decode cL_outOf 15 = .ok (.imul, 1) := by decide +kernel
theorem dL_outOf_16 : decode cL_outOf 16 = .ok (.iadd, 1) := by decide +kernel
theorem dL_outOf_17 : decode cL_outOf 17 = .ok (.iaload, 1) := by decide +kernel
theorem dL_outOf_18 : decode cL_outOf 18 = .ok (.iload_n 3, 1) := by decide +kernel
theorem dL_outOf_19 : decode cL_outOf 19 = .ok (.iload 4, 2) := by decide +kernel
theorem dL_outOf_21 : decode cL_outOf 21 = .ok (.iload 5, 2) := by decide +kernel
theorem dL_outOf_23 : decode cL_outOf 23 = .ok (.invokestatic 283, 3) := by decide +kernel
theorem dL_outOf_26 : decode cL_outOf 26 = .ok (.ireturn, 1) := by decide +kernel
theorem dL_isAhead_0 : decode cL_isAhead 0 = .ok (.iload_n 0, 1) := by decide +kernel
theorem dL_isAhead_1 : decode cL_isAhead 1 = .ok (.iload_n 1, 1) := by decide +kernel
theorem dL_isAhead_2 : decode cL_isAhead 2 = .ok (.if_icmp .eq 10, 3) := by decide +kernel
theorem dL_isAhead_5 : decode cL_isAhead 5 = .ok (.iload_n 1, 1) := by decide +kernel
theorem dL_isAhead_6 : decode cL_isAhead 6 = .ok (.sipush 5001, 3) := by decide +kernel
theorem dL_isAhead_9 : decode cL_isAhead 9 = .ok (.if_icmp .ne 5, 3) := by decide +kernel
theorem dL_isAhead_12 : decode cL_isAhead 12 = .ok (.iconst 0, 1) := by decide +kernel
theorem dL_isAhead_13 : decode cL_isAhead 13 = .ok (.ireturn, 1) := by decide +kernel
theorem dL_isAhead_14 : decode cL_isAhead 14 = .ok (.iload_n 0, 1) := by decide +kernel
theorem dL_isAhead_15 : decode cL_isAhead 15 = .ok (.sipush 5001, 3) := by decide +kernel
theorem dL_isAhead_18 : decode cL_isAhead 18 = .ok (.if_icmp .eq 22, 3) := by decide +kernel
theorem dL_isAhead_21 : decode cL_isAhead 21 = .ok (.iload_n 1, 1) := by decide +kernel
theorem dL_isAhead_22 : decode cL_isAhead 22 = .ok (.sipush 5000, 3) := by decide +kernel
theorem dL_isAhead_25 : decode cL_isAhead 25 = .ok (.if_icmp .eq 19, 3) := by decide +kernel
theorem dL_isAhead_28 : decode cL_isAhead 28 = .ok (.iload_n 0, 1) := by decide +kernel
theorem dL_isAhead_29 : decode cL_isAhead 29 = .ok (.sipush 5000, 3) := by decide +kernel
theorem dL_isAhead_32 : decode cL_isAhead 32 = .ok (.if_icmp .eq 8, 3) := by decide +kernel
theorem dL_isAhead_35 : decode cL_isAhead 35 = .ok (.iload_n 0, 1) := by decide +kernel
theorem dL_isAhead_36 : decode cL_isAhead 36 = .ok (.iload_n 1, 1) := by decide +kernel
theorem dL_isAhead_37 : decode cL_isAhead 37 = .ok (.if_icmp .ge 7, 3) := by decide +kernel
theorem dL_isAhead_40 : decode cL_isAhead 40 = .ok (.iconst 1, 1) := by decide +kernel
theorem dL_isAhead_41 : decode cL_isAhead 41 = .ok (.goto 4, 3) := by decide +kernel
theorem dL_isAhead_44 : decode cL_isAhead 44 = .ok (.iconst 0, 1) := by decide +kernel
theorem dL_isAhead_45 : decode cL_isAhead 45 = .ok (.ireturn, 1) := by decide +kernel
theorem dL_group_0 : decode cL_group 0 = .ok (.aload_n 0, 1) := by decide +kernel
theorem dL_group_1 : decode cL_group 1 = .ok (.aload_n 1, 1) := by decide +kernel
theorem dL_group_2 : decode cL_group 2 = .ok (.iconst 0, 1) := by decide +kernel
theorem dL_group_3 : decode cL_group 3 = .ok (.iload_n 3, 1) := by decide +kernel
theorem dL_group_4 : decode cL_group 4 = .ok (.iload 4, 2) := by decide +kernel
theorem dL_group_6 : decode cL_group 6 = .ok (.iload 5, 2) := by decide +kernel
theorem dL_group_8 : decode cL_group 8 = .ok (.invokestatic 279, 3) := by decide +kernel
theorem dL_group_11 : decode cL_group 11 = .ok (.istore 7, 2) := by decide +kernel
theorem dL_group_13 : decode cL_group 13 = .ok (.aload_n 0, 1) := by decide +kernel
theorem dL_group_14 : decode cL_group 14 = .ok (.aload_n 1, 1) := by decide +kernel
theorem dL_group_15 : decode cL_group 15 = .ok (.aload_n 0, 1) := by decide +kernel
theorem dL_group_16 : decode cL_group 16 = .ok (.iconst 3, 1) := by decide +kernel
theorem dL_group_17 : decode cL_group 17 = .ok (.iaload, 1) := by decide +kernel
theorem dL_group_18 : decode cL_group 18 = .ok (.iconst 1, 1) := by decide +kernel
theorem dL_group_19 : decode cL_group 19 = .ok (.isub, 1) := by decide +kernel
theorem dL_group_20 : decode cL_group 20 = .ok (.iload_n 3, 1) := by decide +kernel
theorem dL_group_21 : decode cL_group 21 = .ok (.iload 4, 2) := by decide +kernel
theorem dL_group_23 : decode cL_group 23 = .ok (.iload 5, 2) := by decide +kernel
theorem dL_group_25 : decode cL_group 25 = .ok (.invokestatic 279, 3) := by decide +kernel
theorem dL_group_28 : decode cL_group 28 = .ok (.istore 8, 2) := by decide +kernel
theorem dL_group_30 : decode cL_group 30 = .ok (.iconst 0, 1) := by decide +kernel
theorem dL_group_31 : decode cL_group 31 = .ok (.istore 9, 2) := by decide +kernel
theorem dL_group_33 : decode cL_group 33 = .ok (.iload 9, 2) := by decide +kernel
theorem dL_group_35 : decode cL_group 35 = .ok (.iload 6, 2) := by decide +kernel
theorem dL_group_37 : decode cL_group 37 = .ok (.if_icmp .ge 23, 3) := by decide +kernel
theorem dL_group_40 : decode cL_group 40 = .ok (.aload_n 2, 1) := by decide +kernel
theorem dL_group_41 : decode cL_group 41 = .ok (.iconst 3, 1) := by decide +kernel
theorem dL_group_42 : decode cL_group 42 = .ok (.iload 9, 2) := by decide +kernel
theorem dL_group_44 : decode cL_group 44 = .ok (.imul, 1) := by decide +kernel
theorem dL_group_45 : decode cL_group 45 = .ok (.iaload, 1) := by decide +kernel
theorem dL_group_46 : decode cL_group 46 = .ok (.iload 7, 2) := by decide +kernel
theorem dL_group_48 : decode cL_group 48 = .ok (.invokestatic 287, 3) := by decide +kernel
theorem dL_group_51 : decode cL_group 51 = .ok (.ifCond .eq 9, 3) := by decide +kernel
theorem dL_group_54 : decode cL_group 54 = .ok (.iinc 9 1, 3) := by decide +kernel
theorem dL_group_57 : decode cL_group 57 = .ok (.goto (-24), 3) := by decide +kernel
theorem dL_group_60 : decode cL_group 60 = .ok (.iload 6, 2) := by decide +kernel
theorem dL_group_62 : decode cL_group 62 = .ok (.istore 10, 2) := by decide +kernel
theorem dL_group_64 : decode cL_group 64 = .ok (.iload 9, 2) := by decide +kernel
theorem dL_group_66 : decode cL_group 66 = .ok (.iload 6, 2) := by decide +kernel
theorem dL_group_68 : decode cL_group 68 = .ok (.if_icmp .eq 14, 3) := by decide +kernel
theorem dL_group_71 : decode cL_group 71 = .ok (.aload_n 2, 1) := by decide +kernel
theorem dL_group_72 : decode cL_group 72 = .ok (.iconst 3, 1) := by decide +kernel
theorem dL_group_73 : decode cL_group 73 = .ok (.iload 9, 2) := by decide +kernel
theorem dL_group_75 : decode cL_group 75 = .ok (.imul, 1) := by decide +kernel
theorem dL_group_76 : decode cL_group 76 = .ok (.iaload, 1) := by decide +kernel
theorem dL_group_77 : decode cL_group 77 = .ok (.iload 7, 2) := by decide +kernel
theorem dL_group_79 : decode cL_group 79 = .ok (.if_icmp .eq 67, 3) := by decide +kernel
theorem dL_group_82 : decode cL_group 82 = .ok (.iconst 3, 1) := by decide +kernel
theorem dL_group_83 : decode cL_group 83 = .ok (.iload 6, 2) := by decide +kernel
theorem dL_group_85 : decode cL_group 85 = .ok (.imul, 1) := by decide +kernel
theorem dL_group_86 : decode cL_group 86 = .ok (.iconst 2, 1) := by decide +kernel
theorem dL_group_87 : decode cL_group 87 = .ok (.iadd, 1) := by decide +kernel
theorem dL_group_88 : decode cL_group 88 = .ok (.istore 11, 2) := by decide +kernel
theorem dL_group_90 : decode cL_group 90 = .ok (.iload 11, 2) := by decide +kernel
theorem dL_group_92 : decode cL_group 92 = .ok (.iconst 3, 1) := by decide +kernel
theorem dL_group_93 : decode cL_group 93 = .ok (.iload 9, 2) := by decide +kernel
theorem dL_group_95 : decode cL_group 95 = .ok (.imul, 1) := by decide +kernel
theorem dL_group_96 : decode cL_group 96 = .ok (.iconst 2, 1) := by decide +kernel
theorem dL_group_97 : decode cL_group 97 = .ok (.iadd, 1) := by decide +kernel
theorem dL_group_98 : decode cL_group 98 = .ok (.if_icmp .le 19, 3) := by decide +kernel
theorem dL_group_101 : decode cL_group 101 = .ok (.aload_n 2, 1) := by decide +kernel
theorem dL_group_102 : decode cL_group 102 = .ok (.iload 11, 2) := by decide +kernel
theorem dL_group_104 : decode cL_group 104 = .ok (.aload_n 2, 1) := by decide +kernel
theorem dL_group_105 : decode cL_group 105 = .ok (.iload 11, 2) := by decide +kernel
theorem dL_group_107 : decode cL_group 107 = .ok (.iconst 3, 1) := by decide +kernel
theorem dL_group_108 : decode cL_group 108 = .ok (.isub, 1) := by decide +kernel
theorem dL_group_109 : decode cL_group 109 = .ok (.iaload, 1) := by decide +kernel
theorem dL_group_110 : decode cL_group 110 = .ok (.iastore, 1) := by decide +kernel
theorem dL_group_111 : decode cL_group 111 = .ok (.iinc 11 (-1), 3) := by decide +kernel
theorem dL_group_114 : decode cL_group 114 = .ok (.goto (-24), 3) := by decide +kernel
theorem dL_group_117 : decode cL_group 117 = .ok (.aload_n 2, 1) := by decide +kernel
theorem dL_group_118 : decode cL_group 118 = .ok (.iconst 3, 1) := by decide +kernel
theorem dL_group_119 : decode cL_group 119 = .ok (.iload 9, 2) := by decide +kernel
theorem dL_group_121 : decode cL_group 121 = .ok (.imul, 1) := by decide +kernel
theorem dL_group_122 : decode cL_group 122 = .ok (.iload 7, 2) := by decide +kernel
theorem dL_group_124 : decode cL_group 124 = .ok (.iastore, 1) := by decide +kernel
theorem dL_group_125 : decode cL_group 125 = .ok (.aload_n 2, 1) := by decide +kernel
theorem dL_group_126 : decode cL_group 126 = .ok (.iconst 3, 1) := by decide +kernel
theorem dL_group_127 : decode cL_group 127 = .ok (.iload 9, 2) := by decide +kernel
theorem dL_group_129 : decode cL_group 129 = .ok (.imul, 1) := by decide +kernel
theorem dL_group_130 : decode cL_group 130 = .ok (.iconst 1, 1) := by decide +kernel
theorem dL_group_131 : decode cL_group 131 = .ok (.iadd, 1) := by decide +kernel
theorem dL_group_132 : decode cL_group 132 = .ok (.iconst 0, 1) := by decide +kernel
theorem dL_group_133 : decode cL_group 133 = .ok (.iastore, 1) := by decide +kernel
theorem dL_group_134 : decode cL_group 134 = .ok (.aload_n 2, 1) := by decide +kernel
theorem dL_group_135 : decode cL_group 135 = .ok (.iconst 3, 1) := by decide +kernel
theorem dL_group_136 : decode cL_group 136 = .ok (.iload 9, 2) := by decide +kernel
theorem dL_group_138 : decode cL_group 138 = .ok (.imul, 1) := by decide +kernel
theorem dL_group_139 : decode cL_group 139 = .ok (.iconst 2, 1) := by decide +kernel
theorem dL_group_140 : decode cL_group 140 = .ok (.iadd, 1) := by decide +kernel
theorem dL_group_141 : decode cL_group 141 = .ok (.iconst 0, 1) := by decide +kernel
theorem dL_group_142 : decode cL_group 142 = .ok (.iastore, 1) := by decide +kernel
theorem dL_group_143 : decode cL_group 143 = .ok (.iinc 10 1, 3) := by decide +kernel
theorem dL_group_146 : decode cL_group 146 = .ok (.aload_n 2, 1) := by decide +kernel
theorem dL_group_147 : decode cL_group 147 = .ok (.iconst 3, 1) := by decide +kernel
theorem dL_group_148 : decode cL_group 148 = .ok (.iload 9, 2) := by decide +kernel
theorem dL_group_150 : decode cL_group 150 = .ok (.imul, 1) := by decide +kernel
theorem dL_group_151 : decode cL_group 151 = .ok (.iconst 1, 1) := by decide +kernel
theorem dL_group_152 : decode cL_group 152 = .ok (.iadd, 1) := by decide +kernel
theorem dL_group_153 : decode cL_group 153 = .ok (.dup2, 1) := by decide +kernel
theorem dL_group_154 : decode cL_group 154 = .ok (.iaload, 1) := by decide +kernel
theorem dL_group_155 : decode cL_group 155 = .ok (.iconst 1, 1) := by decide +kernel
theorem dL_group_156 : decode cL_group 156 = .ok (.iadd, 1) := by decide +kernel
theorem dL_group_157 : decode cL_group 157 = .ok (.iastore, 1) := by decide +kernel
theorem dL_group_158 : decode cL_group 158 = .ok (.aload_n 2, 1) := by decide +kernel
theorem dL_group_159 : decode cL_group 159 = .ok (.iconst 3, 1) := by decide +kernel
theorem dL_group_160 : decode cL_group 160 = .ok (.iload 9, 2) := by decide +kernel
theorem dL_group_162 : decode cL_group 162 = .ok (.imul, 1) := by decide +kernel
theorem dL_group_163 : decode cL_group 163 = .ok (.iconst 2, 1) := by decide +kernel
theorem dL_group_164 : decode cL_group 164 = .ok (.iadd, 1) := by decide +kernel
theorem dL_group_165 : decode cL_group 165 = .ok (.dup2, 1) := by decide +kernel
theorem dL_group_166 : decode cL_group 166 = .ok (.iaload, 1) := by decide +kernel
theorem dL_group_167 : decode cL_group 167 = .ok (.iload 8, 2) := by decide +kernel
theorem dL_group_169 : decode cL_group 169 = .ok (.invokestatic 109, 3) := by decide +kernel
theorem dL_group_172 : decode cL_group 172 = .ok (.ifCond .eq 8, 3) := by decide +kernel
theorem dL_group_175 : decode cL_group 175 = .ok (.iload 8, 2) := by decide +kernel
theorem dL_group_177 : decode cL_group 177 = .ok (.goto 4, 3) := by decide +kernel
theorem dL_group_180 : decode cL_group 180 = .ok (.iconst 0, 1) := by decide +kernel
theorem dL_group_181 : decode cL_group 181 = .ok (.iadd, 1) := by decide +kernel
theorem dL_group_182 : decode cL_group 182 = .ok (.iastore, 1) := by decide +kernel
theorem dL_group_183 : decode cL_group 183 = .ok (.iload 10, 2) := by decide +kernel
theorem dL_group_185 : decode cL_group 185 = .ok (.ireturn, 1) := by decide +kernel
theorem dL_asks_0 : decode cL_asks 0 = .ok (.iload_n 1, 1) := by decide +kernel
theorem dL_asks_1 : decode cL_asks 1 = .ok (.bipush 6, 2) := by decide +kernel
theorem dL_asks_3 : decode cL_asks 3 = .ok (.iand, 1) := by decide +kernel
theorem dL_asks_4 : decode cL_asks 4 = .ok (.ifCond .ne 7, 3) := by decide +kernel
theorem dL_asks_7 : decode cL_asks 7 = .ok (.iconst 0, 1) := by decide +kernel
theorem dL_asks_8 : decode cL_asks 8 = .ok (.goto 25, 3) := by decide +kernel
theorem dL_asks_11 : decode cL_asks 11 = .ok (.iload_n 1, 1) := by decide +kernel
theorem dL_asks_12 : decode cL_asks 12 = .ok (.iconst 3, 1) := by decide +kernel
theorem dL_asks_13 : decode cL_asks 13 = .ok (.ishr, 1) := by decide +kernel
theorem dL_asks_14 : decode cL_asks 14 = .ok (.iload_n 1, 1) := by decide +kernel
theorem dL_asks_15 : decode cL_asks 15 = .ok (.sipush 768, 3) := by decide +kernel
theorem dL_asks_18 : decode cL_asks 18 = .ok (.iand, 1) := by decide +kernel
theorem dL_asks_19 : decode cL_asks 19 = .ok (.ifCond .ne 9, 3) := by decide +kernel
theorem dL_asks_22 : decode cL_asks 22 = .ok (.sipush 201, 3) := by decide +kernel
theorem dL_asks_25 : decode cL_asks 25 = .ok (.goto 5, 3) := by decide +kernel
theorem dL_asks_28 : decode cL_asks 28 = .ok (.bipush 40, 2) := by decide +kernel
theorem dL_asks_30 : decode cL_asks 30 = .ok (.invokestatic 130, 3) := by decide +kernel
theorem dL_asks_33 : decode cL_asks 33 = .ok (.istore 16, 2) := by decide +kernel
theorem dL_asks_35 : decode cL_asks 35 = .ok (.iload_n 2, 1) := by decide +kernel
theorem dL_asks_36 : decode cL_asks 36 = .ok (.bipush 6, 2) := by decide +kernel
theorem dL_asks_38 : decode cL_asks 38 = .ok (.iand, 1) := by decide +kernel
theorem dL_asks_39 : decode cL_asks 39 = .ok (.ifCond .le 9, 3) := by decide +kernel
theorem dL_asks_42 : decode cL_asks 42 = .ok (.sipush 200, 3) := by decide +kernel
theorem dL_asks_45 : decode cL_asks 45 = .ok (.goto 11, 3) := by decide +kernel
theorem dL_asks_48 : decode cL_asks 48 = .ok (.iload_n 2, 1) := by decide +kernel
theorem dL_asks_49 : decode cL_asks 49 = .ok (.iconst 3, 1) := by decide +kernel
theorem dL_asks_50 : decode cL_asks 50 = .ok (.ishr, 1) := by decide +kernel
theorem dL_asks_51 : decode cL_asks 51 = .ok (.bipush 12, 2) := by decide +kernel
theorem dL_asks_53 : decode cL_asks 53 = .ok (.invokestatic 130, 3) := by decide +kernel
theorem dL_asks_56 : decode cL_asks 56 = .ok (.istore 17, 2) := by decide +kernel
theorem dL_asks_58 : decode cL_asks 58 = .ok (.aload_n 0, 1) := by decide +kernel
theorem dL_asks_59 : decode cL_asks 59 = .ok (.sipush 201, 3) := by decide +kernel
theorem dL_asks_62 : decode cL_asks 62 = .ok (.iconst 0, 1) := by decide +kernel
theorem dL_asks_63 : decode cL_asks 63 = .ok (.invokestatic 291, 3) := by decide +kernel
theorem dL_asks_66 : decode cL_asks 66 = .ok (.sipush (-7200), 3) := by decide +kernel
theorem dL_asks_69 : decode cL_asks 69 = .ok (.if_icmp .ne 29, 3) := by decide +kernel
theorem dL_asks_72 : decode cL_asks 72 = .ok (.aload_n 0, 1) := by decide +kernel
theorem dL_asks_73 : decode cL_asks 73 = .ok (.iconst 0, 1) := by decide +kernel
theorem dL_asks_74 : decode cL_asks 74 = .ok (.sipush 201, 3) := by decide +kernel
theorem dL_asks_77 : decode cL_asks 77 = .ok (.invokestatic 291, 3) := by decide +kernel
theorem dL_asks_80 : decode cL_asks 80 = .ok (.sipush (-7200), 3) := by decide +kernel
theorem dL_asks_83 : decode cL_asks 83 = .ok (.if_icmp .ne 15, 3) := by decide +kernel
theorem dL_asks_86 : decode cL_asks 86 = .ok (.aload_n 0, 1) := by decide +kernel
theorem dL_asks_87 : decode cL_asks 87 = .ok (.iconst (-1), 1) := by decide +kernel
theorem dL_asks_88 : decode cL_asks 88 = .ok (.iconst 0, 1) := by decide +kernel
theorem dL_asks_89 : decode cL_asks 89 = .ok (.invokestatic 291, 3) := by decide +kernel
theorem dL_asks_92 : decode cL_asks 92 = .ok (.sipush (-7200), 3) := by decide +kernel
theorem dL_asks_95 : decode cL_asks 95 = .ok (.if_icmp .eq 5, 3) := by decide +kernel
theorem dL_asks_98 : decode cL_asks 98 = .ok (.iconst 0, 1) := by decide +kernel
theorem dL_asks_99 : decode cL_asks 99 = .ok (.ireturn, 1) := by decide +kernel
theorem dL_asks_100 : decode cL_asks 100 = .ok (.aload 7, 2) := by decide +kernel
theorem dL_asks_102 : decode cL_asks 102 = .ok (.iconst 0, 1) := by decide +kernel
theorem dL_asks_103 : decode cL_asks 103 = .ok (.iaload, 1) := by decide +kernel
theorem dL_asks_104 : decode cL_asks 104 = .ok (.ifCond .eq 10, 3) := by decide +kernel
theorem dL_asks_107 : decode cL_asks 107 = .ok (.aload 7, 2) := by decide +kernel
theorem dL_asks_109 : decode cL_asks 109 = .ok (.iconst 3, 1) := by decide +kernel
theorem dL_asks_110 : decode cL_asks 110 = .ok (.iaload, 1) := by decide +kernel
theorem dL_asks_111 : decode cL_asks 111 = .ok (.ifCond .ne 45, 3) := by decide +kernel
theorem dL_asks_114 : decode cL_asks 114 = .ok (.aload_n 0, 1) := by decide +kernel
theorem dL_asks_115 : decode cL_asks 115 = .ok (.iload 16, 2) := by decide +kernel
theorem dL_asks_117 : decode cL_asks 117 = .ok (.iload 17, 2) := by decide +kernel
theorem dL_asks_119 : decode cL_asks 119 = .ok (.invokestatic 291, 3) := by decide +kernel
theorem dL_asks_122 : decode cL_asks 122 = .ok (.sipush (-7300), 3) := by decide +kernel
theorem dL_asks_125 : decode cL_asks 125 = .ok (.if_icmp .ne 29, 3) := by decide +kernel
theorem dL_asks_128 : decode cL_asks 128 = .ok (.aload_n 0, 1) := by decide +kernel
theorem dL_asks_129 : decode cL_asks 129 = .ok (.invokestatic 293, 3) := by decide +kernel
theorem dL_asks_132 : decode cL_asks 132 = .ok (.sipush (-7300), 3) := by decide +kernel
theorem dL_asks_135 : decode cL_asks 135 = .ok (.if_icmp .ne 19, 3) := by decide +kernel
theorem dL_asks_138 : decode cL_asks 138 = .ok (.aload_n 0, 1) := by decide +kernel
theorem dL_asks_139 : decode cL_asks 139 = .ok (.iconst 0, 1) := by decide +kernel
theorem dL_asks_140 : decode cL_asks 140 = .ok (.iconst 0, 1) := by decide +kernel
theorem dL_asks_141 : decode cL_asks 141 = .ok (.invokestatic 296, 3) := by decide +kernel
theorem dL_asks_144 : decode cL_asks 144 = .ok (.sipush (-7300), 3) := by decide +kernel
theorem dL_asks_147 : decode cL_asks 147 = .ok (.if_icmp .ne 7, 3) := by decide +kernel
theorem dL_asks_150 : decode cL_asks 150 = .ok (.iconst 1, 1) := by decide +kernel
theorem dL_asks_151 : decode cL_asks 151 = .ok (.goto 4, 3) := by decide +kernel
theorem dL_asks_154 : decode cL_asks 154 = .ok (.iconst 0, 1) := by decide +kernel
theorem dL_asks_155 : decode cL_asks 155 = .ok (.ireturn, 1) := by decide +kernel
theorem dL_asks_156 : decode cL_asks 156 = .ok (.aload 14, 2) := by decide +kernel
theorem dL_asks_158 : decode cL_asks 158 = .ok (.iconst 4, 1) := by decide +kernel
theorem dL_asks_159 : decode cL_asks 159 = .ok (.aload 14, 2) := by decide +kernel
theorem dL_asks_161 : decode cL_asks 161 = .ok (.iconst 1, 1) := by decide +kernel
theorem dL_asks_162 : decode cL_asks 162 = .ok (.iaload, 1) := by decide +kernel
theorem dL_asks_163 : decode cL_asks 163 = .ok (.iastore, 1) := by decide +kernel
theorem dL_asks_164 : decode cL_asks 164 = .ok (.aload 14, 2) := by decide +kernel
theorem dL_asks_166 : decode cL_asks 166 = .ok (.iconst 5, 1) := by decide +kernel
theorem dL_asks_167 : decode cL_asks 167 = .ok (.iload 16, 2) := by decide +kernel
theorem dL_asks_169 : decode cL_asks 169 = .ok (.iastore, 1) := by decide +kernel
theorem dL_asks_170 : decode cL_asks 170 = .ok (.aload 14, 2) := by decide +kernel
theorem dL_asks_172 : decode cL_asks 172 = .ok (.bipush 6, 2) := by decide +kernel
theorem dL_asks_174 : decode cL_asks 174 = .ok (.iload 17, 2) := by decide +kernel
theorem dL_asks_176 : decode cL_asks 176 = .ok (.iastore, 1) := by decide +kernel
theorem dL_asks_177 : decode cL_asks 177 = .ok (.bipush 7, 2) := by decide +kernel
theorem dL_asks_179 : decode cL_asks 179 = .ok (.istore 18, 2) := by decide +kernel
theorem dL_asks_181 : decode cL_asks 181 = .ok (.iload 18, 2) := by decide +kernel
theorem dL_asks_183 : decode cL_asks 183 = .ok (.bipush 12, 2) := by decide +kernel
theorem dL_asks_185 : decode cL_asks 185 = .ok (.if_icmp .ge 15, 3) := by decide +kernel
theorem dL_asks_188 : decode cL_asks 188 = .ok (.aload 14, 2) := by decide +kernel
theorem dL_asks_190 : decode cL_asks 190 = .ok (.iload 18, 2) := by decide +kernel
theorem dL_asks_192 : decode cL_asks 192 = .ok (.iconst 0, 1) := by decide +kernel
theorem dL_asks_193 : decode cL_asks 193 = .ok (.iastore, 1) := by decide +kernel
theorem dL_asks_194 : decode cL_asks 194 = .ok (.iinc 18 1, 3) := by decide +kernel
theorem dL_asks_197 : decode cL_asks 197 = .ok (.goto (-16), 3) := by decide +kernel
theorem dL_asks_200 : decode cL_asks 200 = .ok (.iconst 0, 1) := by decide +kernel
theorem dL_asks_201 : decode cL_asks 201 = .ok (.istore 18, 2) := by decide +kernel
theorem dL_asks_203 : decode cL_asks 203 = .ok (.iload 18, 2) := by decide +kernel
theorem dL_asks_205 : decode cL_asks 205 = .ok (.iconst 3, 1) := by decide +kernel
theorem dL_asks_206 : decode cL_asks 206 = .ok (.if_icmp .ge 17, 3) := by decide +kernel
theorem dL_asks_209 : decode cL_asks 209 = .ok (.aload 13, 2) := by decide +kernel
theorem dL_asks_211 : decode cL_asks 211 = .ok (.iconst 4, 1) := by decide +kernel
theorem dL_asks_212 : decode cL_asks 212 = .ok (.iload 18, 2) := by decide +kernel
theorem dL_asks_214 : decode cL_asks 214 = .ok (.imul, 1) := by decide +kernel
theorem dL_asks_215 : decode cL_asks 215 = .ok (.iconst (-1), 1) := by decide +kernel
theorem dL_asks_216 : decode cL_asks 216 = .ok (.iastore, 1) := by decide +kernel
theorem dL_asks_217 : decode cL_asks 217 = .ok (.iinc 18 1, 3) := by decide +kernel
theorem dL_asks_220 : decode cL_asks 220 = .ok (.goto (-17), 3) := by decide +kernel
theorem dL_asks_223 : decode cL_asks 223 = .ok (.iconst 0, 1) := by decide +kernel
theorem dL_asks_224 : decode cL_asks 224 = .ok (.istore 18, 2) := by decide +kernel
theorem dL_asks_226 : decode cL_asks 226 = .ok (.iconst 0, 1) := by decide +kernel
theorem dL_asks_227 : decode cL_asks 227 = .ok (.istore 19, 2) := by decide +kernel
theorem dL_asks_229 : decode cL_asks 229 = .ok (.iload 19, 2) := by decide +kernel
theorem dL_asks_231 : decode cL_asks 231 = .ok (.aload 7, 2) := by decide +kernel
theorem dL_asks_233 : decode cL_asks 233 = .ok (.iconst 0, 1) := by decide +kernel
theorem dL_asks_234 : decode cL_asks 234 = .ok (.iaload, 1) := by decide +kernel
theorem dL_asks_235 : decode cL_asks 235 = .ok (.if_icmp .ge 157, 3) := by decide +kernel
theorem dL_asks_238 : decode cL_asks 238 = .ok (.iconst (-1), 1) := by decide +kernel
theorem dL_asks_239 : decode cL_asks 239 = .ok (.istore 20, 2) := by decide +kernel
theorem dL_asks_241 : decode cL_asks 241 = .ok (.ldc_w 298, 3) := by decide +kernel
theorem dL_asks_244 : decode cL_asks 244 = .ok (.istore 21, 2) := by decide +kernel
theorem dL_asks_246 : decode cL_asks 246 = .ok (.iconst 0, 1) := by decide +kernel
theorem dL_asks_247 : decode cL_asks 247 = .ok (.istore 22, 2) := by decide +kernel
theorem dL_asks_249 : decode cL_asks 249 = .ok (.iload 22, 2) := by decide +kernel
theorem dL_asks_251 : decode cL_asks 251 = .ok (.aload 7, 2) := by decide +kernel
theorem dL_asks_253 : decode cL_asks 253 = .ok (.iconst 0, 1) := by decide +kernel
theorem dL_asks_254 : decode cL_asks 254 = .ok (.iaload, 1) := by decide +kernel
theorem dL_asks_255 : decode cL_asks 255 = .ok (.if_icmp .ge 71, 3) := by decide +kernel
theorem dL_asks_258 : decode cL_asks 258 = .ok (.aload 13, 2) := by decide +kernel
theorem dL_asks_260 : decode cL_asks 260 = .ok (.iconst 4, 1) := by decide +kernel
theorem dL_asks_261 : decode cL_asks 261 = .ok (.iload 22, 2) := by decide +kernel
theorem dL_asks_263 : decode cL_asks 263 = .ok (.imul, 1) := by decide +kernel
theorem dL_asks_264 : decode cL_asks 264 = .ok (.iaload, 1) := by decide +kernel
theorem dL_asks_265 : decode cL_asks 265 = .ok (.ifCond .lt 6, 3) := by decide +kernel
theorem dL_asks_268 : decode cL_asks 268 = .ok (.goto 52, 3) := by decide +kernel
theorem dL_asks_271 : decode cL_asks 271 = .ok (.aload 7, 2) := by decide +kernel
theorem dL_asks_273 : decode cL_asks 273 = .ok (.aload 10, 2) := by decide +kernel
theorem dL_asks_275 : decode cL_asks 275 = .ok (.iload 22, 2) := by decide +kernel
theorem dL_asks_277 : decode cL_asks 277 = .ok (.invokestatic 260, 3) := by decide +kernel
theorem dL_asks_280 : decode cL_asks 280 = .ok (.aload 7, 2) := by decide +kernel
theorem dL_asks_282 : decode cL_asks 282 = .ok (.aload 13, 2) := by decide +kernel
theorem dL_asks_284 : decode cL_asks 284 = .ok (.iload 22, 2) := by decide +kernel
theorem dL_asks_286 : decode cL_asks 286 = .ok (.invokestatic 256, 3) := by decide +kernel
theorem dL_asks_289 : decode cL_asks 289 = .ok (.ifCond .ge 9, 3) := by decide +kernel
theorem dL_asks_292 : decode cL_asks 292 = .ok (.sipush 1000, 3) := by decide +kernel
theorem dL_asks_295 : decode cL_asks 295 = .ok (.goto 4, 3) := by decide +kernel
theorem dL_asks_298 : decode cL_asks 298 = .ok (.iconst 0, 1) := by decide +kernel
theorem dL_asks_299 : decode cL_asks 299 = .ok (.iadd, 1) := by decide +kernel
theorem dL_asks_300 : decode cL_asks 300 = .ok (.istore 23, 2) := by decide +kernel
theorem dL_asks_302 : decode cL_asks 302 = .ok (.iload 23, 2) := by decide +kernel
theorem dL_asks_304 : decode cL_asks 304 = .ok (.iload 21, 2) := by decide +kernel
theorem dL_asks_306 : decode cL_asks 306 = .ok (.if_icmp .lt 6, 3) := by decide +kernel
theorem dL_asks_309 : decode cL_asks 309 = .ok (.goto 11, 3) := by decide +kernel
theorem dL_asks_312 : decode cL_asks 312 = .ok (.iload 23, 2) := by decide +kernel
theorem dL_asks_314 : decode cL_asks 314 = .ok (.istore 21, 2) := by decide +kernel
theorem dL_asks_316 : decode cL_asks 316 = .ok (.iload 22, 2) := by decide +kernel
theorem dL_asks_318 : decode cL_asks 318 = .ok (.istore 20, 2) := by decide +kernel
theorem dL_asks_320 : decode cL_asks 320 = .ok (.iinc 22 1, 3) := by decide +kernel
theorem dL_asks_323 : decode cL_asks 323 = .ok (.goto (-74), 3) := by decide +kernel
theorem dL_asks_326 : decode cL_asks 326 = .ok (.aload_n 3, 1) := by decide +kernel
theorem dL_asks_327 : decode cL_asks 327 = .ok (.aload 4, 2) := by decide +kernel
theorem dL_asks_329 : decode cL_asks 329 = .ok (.aload 5, 2) := by decide +kernel
theorem dL_asks_331 : decode cL_asks 331 = .ok (.aload 6, 2) := by decide +kernel
theorem dL_asks_333 : decode cL_asks 333 = .ok (.aload 7, 2) := by decide +kernel
theorem dL_asks_335 : decode cL_asks 335 = .ok (.aload 8, 2) := by decide +kernel
theorem dL_asks_337 : decode cL_asks 337 = .ok (.aload 9, 2) := by decide +kernel
theorem dL_asks_339 : decode cL_asks 339 = .ok (.aload 10, 2) := by decide +kernel
theorem dL_asks_341 : decode cL_asks 341 = .ok (.aload 11, 2) := by decide +kernel
theorem dL_asks_343 : decode cL_asks 343 = .ok (.aload 12, 2) := by decide +kernel
theorem dL_asks_345 : decode cL_asks 345 = .ok (.aload 13, 2) := by decide +kernel
theorem dL_asks_347 : decode cL_asks 347 = .ok (.aload 14, 2) := by decide +kernel
theorem dL_asks_349 : decode cL_asks 349 = .ok (.iload 20, 2) := by decide +kernel
theorem dL_asks_351 : decode cL_asks 351 = .ok (.invokestatic 299, 3) := by decide +kernel
theorem dL_asks_354 : decode cL_asks 354 = .ok (.iload 18, 2) := by decide +kernel
theorem dL_asks_356 : decode cL_asks 356 = .ok (.iload 20, 2) := by decide +kernel
theorem dL_asks_358 : decode cL_asks 358 = .ok (.iconst 2, 1) := by decide +kernel
theorem dL_asks_359 : decode cL_asks 359 = .ok (.iload 19, 2) := by decide +kernel
theorem dL_asks_361 : decode cL_asks 361 = .ok (.imul, 1) := by decide +kernel
theorem dL_asks_362 : decode cL_asks 362 = .ok (.ishl, 1) := by decide +kernel
theorem dL_asks_363 : decode cL_asks 363 = .ok (.iadd, 1) := by decide +kernel
theorem dL_asks_364 : decode cL_asks 364 = .ok (.istore 18, 2) := by decide +kernel
theorem dL_asks_366 : decode cL_asks 366 = .ok (.aload 14, 2) := by decide +kernel
theorem dL_asks_368 : decode cL_asks 368 = .ok (.bipush 11, 2) := by decide +kernel
theorem dL_asks_370 : decode cL_asks 370 = .ok (.dup2, 1) := by decide +kernel
theorem dL_asks_371 : decode cL_asks 371 = .ok (.iaload, 1) := by decide +kernel
theorem dL_asks_372 : decode cL_asks 372 = .ok (.aload 13, 2) := by decide +kernel
theorem dL_asks_374 : decode cL_asks 374 = .ok (.iconst 4, 1) := by decide +kernel
theorem dL_asks_375 : decode cL_asks 375 = .ok (.iload 20, 2) := by decide +kernel
theorem dL_asks_377 : decode cL_asks 377 = .ok (.imul, 1) := by decide +kernel
theorem dL_asks_378 : decode cL_asks 378 = .ok (.iconst 1, 1) := by decide +kernel
theorem dL_asks_379 : decode cL_asks 379 = .ok (.iadd, 1) := by decide +kernel
theorem dL_asks_380 : decode cL_asks 380 = .ok (.iaload, 1) := by decide +kernel
theorem dL_asks_381 : decode cL_asks 381 = .ok (.iload 20, 2) := by decide +kernel
theorem dL_asks_383 : decode cL_asks 383 = .ok (.ishl, 1) := by decide +kernel
theorem dL_asks_384 : decode cL_asks 384 = .ok (.ior, 1) := by decide +kernel
theorem dL_asks_385 : decode cL_asks 385 = .ok (.iastore, 1) := by decide +kernel
theorem dL_asks_386 : decode cL_asks 386 = .ok (.iinc 19 1, 3) := by decide +kernel
theorem dL_asks_389 : decode cL_asks 389 = .ok (.goto (-160), 3) := by decide +kernel
theorem dL_asks_392 : decode cL_asks 392 = .ok (.iconst 0, 1) := by decide +kernel
theorem dL_asks_393 : decode cL_asks 393 = .ok (.istore 19, 2) := by decide +kernel
theorem dL_asks_395 : decode cL_asks 395 = .ok (.aload 14, 2) := by decide +kernel
theorem dL_asks_397 : decode cL_asks 397 = .ok (.iconst 0, 1) := by decide +kernel
theorem dL_asks_398 : decode cL_asks 398 = .ok (.iaload, 1) := by decide +kernel
theorem dL_asks_399 : decode cL_asks 399 = .ok (.istore 20, 2) := by decide +kernel
theorem dL_asks_401 : decode cL_asks 401 = .ok (.iconst 0, 1) := by decide +kernel
theorem dL_asks_402 : decode cL_asks 402 = .ok (.istore 21, 2) := by decide +kernel
theorem dL_asks_404 : decode cL_asks 404 = .ok (.iload 21, 2) := by decide +kernel
theorem dL_asks_406 : decode cL_asks 406 = .ok (.aload 7, 2) := by decide +kernel
theorem dL_asks_408 : decode cL_asks 408 = .ok (.iconst 0, 1) := by decide +kernel
theorem dL_asks_409 : decode cL_asks 409 = .ok (.iaload, 1) := by decide +kernel
theorem dL_asks_410 : decode cL_asks 410 = .ok (.if_icmp .ge 69, 3) := by decide +kernel
theorem dL_asks_413 : decode cL_asks 413 = .ok (.aload 13, 2) := by decide +kernel
theorem dL_asks_415 : decode cL_asks 415 = .ok (.iconst 4, 1) := by decide +kernel
theorem dL_asks_416 : decode cL_asks 416 = .ok (.iload 21, 2) := by decide +kernel
theorem dL_asks_418 : decode cL_asks 418 = .ok (.imul, 1) := by decide +kernel
theorem dL_asks_419 : decode cL_asks 419 = .ok (.iconst 2, 1) := by decide +kernel
theorem dL_asks_420 : decode cL_asks 420 = .ok (.iadd, 1) := by decide +kernel
theorem dL_asks_421 : decode cL_asks 421 = .ok (.iaload, 1) := by decide +kernel
theorem dL_asks_422 : decode cL_asks 422 = .ok (.iload 19, 2) := by decide +kernel
theorem dL_asks_424 : decode cL_asks 424 = .ok (.if_icmp .le 15, 3) := by decide +kernel
theorem dL_asks_427 : decode cL_asks 427 = .ok (.aload 13, 2) := by decide +kernel
theorem dL_asks_429 : decode cL_asks 429 = .ok (.iconst 4, 1) := by decide +kernel
theorem dL_asks_430 : decode cL_asks 430 = .ok (.iload 21, 2) := by decide +kernel
theorem dL_asks_432 : decode cL_asks 432 = .ok (.imul, 1) := by decide +kernel
theorem dL_asks_433 : decode cL_asks 433 = .ok (.iconst 2, 1) := by decide +kernel
theorem dL_asks_434 : decode cL_asks 434 = .ok (.iadd, 1) := by decide +kernel
theorem dL_asks_435 : decode cL_asks 435 = .ok (.iaload, 1) := by decide +kernel
theorem dL_asks_436 : decode cL_asks 436 = .ok (.goto 5, 3) := by decide +kernel
theorem dL_asks_439 : decode cL_asks 439 = .ok (.iload 19, 2) := by decide +kernel
theorem dL_asks_441 : decode cL_asks 441 = .ok (.istore 19, 2) := by decide +kernel
theorem dL_asks_443 : decode cL_asks 443 = .ok (.aload 13, 2) := by decide +kernel
theorem dL_asks_445 : decode cL_asks 445 = .ok (.iconst 4, 1) := by decide +kernel
theorem dL_asks_446 : decode cL_asks 446 = .ok (.iload 21, 2) := by decide +kernel
theorem dL_asks_448 : decode cL_asks 448 = .ok (.imul, 1) := by decide +kernel
theorem dL_asks_449 : decode cL_asks 449 = .ok (.iconst 3, 1) := by decide +kernel
theorem dL_asks_450 : decode cL_asks 450 = .ok (.iadd, 1) := by decide +kernel
theorem dL_asks_451 : decode cL_asks 451 = .ok (.iaload, 1) := by decide +kernel
theorem dL_asks_452 : decode cL_asks 452 = .ok (.iload 20, 2) := by decide +kernel
theorem dL_asks_454 : decode cL_asks 454 = .ok (.if_icmp .ge 15, 3) := by decide +kernel
theorem dL_asks_457 : decode cL_asks 457 = .ok (.aload 13, 2) := by decide +kernel
theorem dL_asks_459 : decode cL_asks 459 = .ok (.iconst 4, 1) := by decide +kernel
theorem dL_asks_460 : decode cL_asks 460 = .ok (.iload 21, 2) := by decide +kernel
theorem dL_asks_462 : decode cL_asks 462 = .ok (.imul, 1) := by decide +kernel
theorem dL_asks_463 : decode cL_asks 463 = .ok (.iconst 3, 1) := by decide +kernel
theorem dL_asks_464 : decode cL_asks 464 = .ok (.iadd, 1) := by decide +kernel
theorem dL_asks_465 : decode cL_asks 465 = .ok (.iaload, 1) := by decide +kernel
theorem dL_asks_466 : decode cL_asks 466 = .ok (.goto 5, 3) := by decide +kernel
theorem dL_asks_469 : decode cL_asks 469 = .ok (.iload 20, 2) := by decide +kernel
theorem dL_asks_471 : decode cL_asks 471 = .ok (.istore 20, 2) := by decide +kernel
theorem dL_asks_473 : decode cL_asks 473 = .ok (.iinc 21 1, 3) := by decide +kernel
theorem dL_asks_476 : decode cL_asks 476 = .ok (.goto (-72), 3) := by decide +kernel
theorem dL_asks_479 : decode cL_asks 479 = .ok (.aload 14, 2) := by decide +kernel
theorem dL_asks_481 : decode cL_asks 481 = .ok (.bipush 12, 2) := by decide +kernel
theorem dL_asks_483 : decode cL_asks 483 = .ok (.aload 14, 2) := by decide +kernel
theorem dL_asks_485 : decode cL_asks 485 = .ok (.bipush 11, 2) := by decide +kernel
theorem dL_asks_487 : decode cL_asks 487 = .ok (.iaload, 1) := by decide +kernel
theorem dL_asks_488 : decode cL_asks 488 = .ok (.ifCond .ne 15, 3) := by decide +kernel
theorem dL_asks_491 : decode cL_asks 491 = .ok (.iload 19, 2) := by decide +kernel
theorem dL_asks_493 : decode cL_asks 493 = .ok (.iload 20, 2) := by decide +kernel
theorem dL_asks_495 : decode cL_asks 495 = .ok (.if_icmp .gt 8, 3) := by decide +kernel
theorem dL_asks_498 : decode cL_asks 498 = .ok (.iload 20, 2) := by decide +kernel
theorem dL_asks_500 : decode cL_asks 500 = .ok (.goto 4, 3) := by decide +kernel
theorem dL_asks_503 : decode cL_asks 503 = .ok (.iconst (-1), 1) := by decide +kernel
theorem dL_asks_504 : decode cL_asks 504 = .ok (.iastore, 1) := by decide +kernel
theorem dL_asks_505 : decode cL_asks 505 = .ok (.aload 14, 2) := by decide +kernel
theorem dL_asks_507 : decode cL_asks 507 = .ok (.bipush 10, 2) := by decide +kernel
theorem dL_asks_509 : decode cL_asks 509 = .ok (.aload 7, 2) := by decide +kernel
theorem dL_asks_511 : decode cL_asks 511 = .ok (.iconst 0, 1) := by decide +kernel
theorem dL_asks_512 : decode cL_asks 512 = .ok (.iaload, 1) := by decide +kernel
theorem dL_asks_513 : decode cL_asks 513 = .ok (.iastore, 1) := by decide +kernel
theorem dL_asks_514 : decode cL_asks 514 = .ok (.aload 14, 2) := by decide +kernel
theorem dL_asks_516 : decode cL_asks 516 = .ok (.bipush 15, 2) := by decide +kernel
theorem dL_asks_518 : decode cL_asks 518 = .ok (.aload 7, 2) := by decide +kernel
theorem dL_asks_520 : decode cL_asks 520 = .ok (.aload 11, 2) := by decide +kernel
theorem dL_asks_522 : decode cL_asks 522 = .ok (.aload 12, 2) := by decide +kernel
theorem dL_asks_524 : decode cL_asks 524 = .ok (.aload 15, 2) := by decide +kernel
theorem dL_asks_526 : decode cL_asks 526 = .ok (.invokestatic 303, 3) := by decide +kernel
theorem dL_asks_529 : decode cL_asks 529 = .ok (.iastore, 1) := by decide +kernel
theorem dL_asks_530 : decode cL_asks 530 = .ok (.aload 14, 2) := by decide +kernel
theorem dL_asks_532 : decode cL_asks 532 = .ok (.bipush 16, 2) := by decide +kernel
theorem dL_asks_534 : decode cL_asks 534 = .ok (.aload 7, 2) := by decide +kernel
theorem dL_asks_536 : decode cL_asks 536 = .ok (.iconst 5, 1) := by decide +kernel
theorem dL_asks_537 : decode cL_asks 537 = .ok (.iaload, 1) := by decide +kernel
theorem dL_asks_538 : decode cL_asks 538 = .ok (.iconst 1, 1) := by decide +kernel
theorem dL_asks_539 : decode cL_asks 539 = .ok (.if_icmp .ne 7, 3) := by decide +kernel
theorem dL_asks_542 : decode cL_asks 542 = .ok (.iconst 3, 1) := by decide +kernel
theorem dL_asks_543 : decode cL_asks 543 = .ok (.goto 7, 3) := by decide +kernel
theorem dL_asks_546 : decode cL_asks 546 = .ok (.aload 7, 2) := by decide +kernel
theorem dL_asks_548 : decode cL_asks 548 = .ok (.iconst 3, 1) := by decide +kernel
theorem dL_asks_549 : decode cL_asks 549 = .ok (.iaload, 1) := by decide +kernel
theorem dL_asks_550 : decode cL_asks 550 = .ok (.iastore, 1) := by decide +kernel
theorem dL_asks_551 : decode cL_asks 551 = .ok (.aload_n 0, 1) := by decide +kernel
theorem dL_asks_552 : decode cL_asks 552 = .ok (.iload 16, 2) := by decide +kernel
theorem dL_asks_554 : decode cL_asks 554 = .ok (.iload 17, 2) := by decide +kernel
theorem dL_asks_556 : decode cL_asks 556 = .ok (.invokestatic 291, 3) := by decide +kernel
theorem dL_asks_559 : decode cL_asks 559 = .ok (.aload 14, 2) := by decide +kernel
theorem dL_asks_561 : decode cL_asks 561 = .ok (.bipush 15, 2) := by decide +kernel
theorem dL_asks_563 : decode cL_asks 563 = .ok (.iaload, 1) := by decide +kernel
theorem dL_asks_564 : decode cL_asks 564 = .ok (.if_icmp .eq 5, 3) := by decide +kernel
theorem dL_asks_567 : decode cL_asks 567 = .ok (.iconst 0, 1) := by decide +kernel
theorem dL_asks_568 : decode cL_asks 568 = .ok (.ireturn, 1) := by decide +kernel
theorem dL_asks_569 : decode cL_asks 569 = .ok (.iconst 0, 1) := by decide +kernel
theorem dL_asks_570 : decode cL_asks 570 = .ok (.istore 21, 2) := by decide +kernel
theorem dL_asks_572 : decode cL_asks 572 = .ok (.iload 21, 2) := by decide +kernel
theorem dL_asks_574 : decode cL_asks 574 = .ok (.aload 7, 2) := by decide +kernel
theorem dL_asks_576 : decode cL_asks 576 = .ok (.iconst 0, 1) := by decide +kernel
theorem dL_asks_577 : decode cL_asks 577 = .ok (.iaload, 1) := by decide +kernel
theorem dL_asks_578 : decode cL_asks 578 = .ok (.if_icmp .ge 44, 3) := by decide +kernel
theorem dL_asks_581 : decode cL_asks 581 = .ok (.iload 18, 2) := by decide +kernel
theorem dL_asks_583 : decode cL_asks 583 = .ok (.iconst 2, 1) := by decide +kernel
theorem dL_asks_584 : decode cL_asks 584 = .ok (.iload 21, 2) := by decide +kernel
theorem dL_asks_586 : decode cL_asks 586 = .ok (.imul, 1) := by decide +kernel
theorem dL_asks_587 : decode cL_asks 587 = .ok (.ishr, 1) := by decide +kernel
theorem dL_asks_588 : decode cL_asks 588 = .ok (.iconst 3, 1) := by decide +kernel
theorem dL_asks_589 : decode cL_asks 589 = .ok (.iand, 1) := by decide +kernel
theorem dL_asks_590 : decode cL_asks 590 = .ok (.istore 22, 2) := by decide +kernel
theorem dL_asks_592 : decode cL_asks 592 = .ok (.aload_n 0, 1) := by decide +kernel
theorem dL_asks_593 : decode cL_asks 593 = .ok (.iload 21, 2) := by decide +kernel
theorem dL_asks_595 : decode cL_asks 595 = .ok (.invokestatic 307, 3) := by decide +kernel
theorem dL_asks_598 : decode cL_asks 598 = .ok (.bipush 10, 2) := by decide +kernel
theorem dL_asks_600 : decode cL_asks 600 = .ok (.iload 22, 2) := by decide +kernel
theorem dL_asks_602 : decode cL_asks 602 = .ok (.imul, 1) := by decide +kernel
theorem dL_asks_603 : decode cL_asks 603 = .ok (.aload 13, 2) := by decide +kernel
theorem dL_asks_605 : decode cL_asks 605 = .ok (.iconst 4, 1) := by decide +kernel
theorem dL_asks_606 : decode cL_asks 606 = .ok (.iload 22, 2) := by decide +kernel
theorem dL_asks_608 : decode cL_asks 608 = .ok (.imul, 1) := by decide +kernel
theorem dL_asks_609 : decode cL_asks 609 = .ok (.iaload, 1) := by decide +kernel
theorem dL_asks_610 : decode cL_asks 610 = .ok (.iadd, 1) := by decide +kernel
theorem dL_asks_611 : decode cL_asks 611 = .ok (.if_icmp .eq 5, 3) := by decide +kernel
theorem dL_asks_614 : decode cL_asks 614 = .ok (.iconst 0, 1) := by decide +kernel
theorem dL_asks_615 : decode cL_asks 615 = .ok (.ireturn, 1) := by decide +kernel
theorem dL_asks_616 : decode cL_asks 616 = .ok (.iinc 21 1, 3) := by decide +kernel
theorem dL_asks_619 : decode cL_asks 619 = .ok (.goto (-47), 3) := by decide +kernel
theorem dL_asks_622 : decode cL_asks 622 = .ok (.aload_n 0, 1) := by decide +kernel
theorem dL_asks_623 : decode cL_asks 623 = .ok (.aload 7, 2) := by decide +kernel
theorem dL_asks_625 : decode cL_asks 625 = .ok (.iconst 0, 1) := by decide +kernel
theorem dL_asks_626 : decode cL_asks 626 = .ok (.iaload, 1) := by decide +kernel
theorem dL_asks_627 : decode cL_asks 627 = .ok (.invokestatic 307, 3) := by decide +kernel
theorem dL_asks_630 : decode cL_asks 630 = .ok (.sipush (-7100), 3) := by decide +kernel
theorem dL_asks_633 : decode cL_asks 633 = .ok (.if_icmp .ne 18, 3) := by decide +kernel
theorem dL_asks_636 : decode cL_asks 636 = .ok (.aload_n 0, 1) := by decide +kernel
theorem dL_asks_637 : decode cL_asks 637 = .ok (.iconst (-1), 1) := by decide +kernel
theorem dL_asks_638 : decode cL_asks 638 = .ok (.invokestatic 307, 3) := by decide +kernel
theorem dL_asks_641 : decode cL_asks 641 = .ok (.sipush (-7100), 3) := by decide +kernel
theorem dL_asks_644 : decode cL_asks 644 = .ok (.if_icmp .ne 7, 3) := by decide +kernel
theorem dL_asks_647 : decode cL_asks 647 = .ok (.iconst 1, 1) := by decide +kernel
theorem dL_asks_648 : decode cL_asks 648 = .ok (.goto 4, 3) := by decide +kernel
theorem dL_asks_651 : decode cL_asks 651 = .ok (.iconst 0, 1) := by decide +kernel
theorem dL_asks_652 : decode cL_asks 652 = .ok (.ireturn, 1) := by decide +kernel
theorem dL_isAnew_0 : decode cL_isAnew 0 = .ok (.aload_n 3, 1) := by decide +kernel
theorem dL_isAnew_1 : decode cL_isAnew 1 = .ok (.iconst 0, 1) := by decide +kernel
theorem dL_isAnew_2 : decode cL_isAnew 2 = .ok (.iaload, 1) := by decide +kernel
theorem dL_isAnew_3 : decode cL_isAnew 3 = .ok (.ifCond .eq 9, 3) := by decide +kernel
theorem dL_isAnew_6 : decode cL_isAnew 6 = .ok (.aload_n 3, 1) := by decide +kernel
theorem dL_isAnew_7 : decode cL_isAnew 7 = .ok (.iconst 3, 1) := by decide +kernel
theorem dL_isAnew_8 : decode cL_isAnew 8 = .ok (.iaload, 1) := by decide +kernel
theorem dL_isAnew_9 : decode cL_isAnew 9 = .ok (.ifCond .ne 31, 3) := by decide +kernel
theorem dL_isAnew_12 : decode cL_isAnew 12 = .ok (.aload_n 0, 1) := by decide +kernel
theorem dL_isAnew_13 : decode cL_isAnew 13 = .ok (.invokestatic 293, 3) := by decide +kernel
theorem dL_isAnew_16 : decode cL_isAnew 16 = .ok (.sipush (-7300), 3) := by decide +kernel
theorem dL_isAnew_19 : decode cL_isAnew 19 = .ok (.if_icmp .ne 19, 3) := by decide +kernel
theorem dL_isAnew_22 : decode cL_isAnew 22 = .ok (.aload_n 0, 1) := by decide +kernel
theorem dL_isAnew_23 : decode cL_isAnew 23 = .ok (.iconst (-1), 1) := by decide +kernel
theorem dL_isAnew_24 : decode cL_isAnew 24 = .ok (.iconst 0, 1) := by decide +kernel
theorem dL_isAnew_25 : decode cL_isAnew 25 = .ok (.invokestatic 296, 3) := by decide +kernel
theorem dL_isAnew_28 : decode cL_isAnew 28 = .ok (.sipush (-7300), 3) := by decide +kernel
theorem dL_isAnew_31 : decode cL_isAnew 31 = .ok (.if_icmp .ne 7, 3) := by decide +kernel
theorem dL_isAnew_34 : decode cL_isAnew 34 = .ok (.iconst 1, 1) := by decide +kernel
theorem dL_isAnew_35 : decode cL_isAnew 35 = .ok (.goto 4, 3) := by decide +kernel
theorem dL_isAnew_38 : decode cL_isAnew 38 = .ok (.iconst 0, 1) := by decide +kernel
theorem dL_isAnew_39 : decode cL_isAnew 39 = .ok (.ireturn, 1) := by decide +kernel
theorem dL_isAnew_40 : decode cL_isAnew 40 = .ok (.bipush 30, 2) := by decide +kernel
theorem dL_isAnew_42 : decode cL_isAnew 42 = .ok (.newarray .long, 2) := by decide +kernel
theorem dL_isAnew_44 : decode cL_isAnew 44 = .ok (.astore 4, 2) := by decide +kernel
theorem dL_isAnew_46 : decode cL_isAnew 46 = .ok (.iconst 3, 1) := by decide +kernel
theorem dL_isAnew_47 : decode cL_isAnew 47 = .ok (.newarray .int, 2) := by decide +kernel
theorem dL_isAnew_49 : decode cL_isAnew 49 = .ok (.astore 5, 2) := by decide +kernel
theorem dL_isAnew_51 : decode cL_isAnew 51 = .ok (.bipush 60, 2) := by decide +kernel
theorem dL_isAnew_53 : decode cL_isAnew 53 = .ok (.newarray .int, 2) := by decide +kernel
theorem dL_isAnew_55 : decode cL_isAnew 55 = .ok (.astore 6, 2) := by decide +kernel
theorem dL_isAnew_57 : decode cL_isAnew 57 = .ok (.iconst 0, 1) := by decide +kernel
theorem dL_isAnew_58 : decode cL_isAnew 58 = .ok (.istore 7, 2) := by decide +kernel
theorem dL_isAnew_60 : decode cL_isAnew 60 = .ok (.iload 7, 2) := by decide +kernel
theorem dL_isAnew_62 : decode cL_isAnew 62 = .ok (.aload_n 3, 1) := by decide +kernel
theorem dL_isAnew_63 : decode cL_isAnew 63 = .ok (.iconst 0, 1) := by decide +kernel
theorem dL_isAnew_64 : decode cL_isAnew 64 = .ok (.iaload, 1) := by decide +kernel
theorem dL_isAnew_65 : decode cL_isAnew 65 = .ok (.if_icmp .ge 68, 3) := by decide +kernel
theorem dL_isAnew_68 : decode cL_isAnew 68 = .ok (.aload 5, 2) := by decide +kernel
theorem dL_isAnew_70 : decode cL_isAnew 70 = .ok (.iload 7, 2) := by decide +kernel
theorem dL_isAnew_72 : decode cL_isAnew 72 = .ok (.aload_n 2, 1) := by decide +kernel
theorem dL_isAnew_73 : decode cL_isAnew 73 = .ok (.aload_n 3, 1) := by decide +kernel
theorem dL_isAnew_74 : decode cL_isAnew 74 = .ok (.bipush 6, 2) := by decide +kernel
theorem dL_isAnew_76 : decode cL_isAnew 76 = .ok (.iload 7, 2) := by decide +kernel
theorem dL_isAnew_78 : decode cL_isAnew 78 = .ok (.iadd, 1) := by decide +kernel
theorem dL_isAnew_79 : decode cL_isAnew 79 = .ok (.iaload, 1) := by decide +kernel
theorem dL_isAnew_80 : decode cL_isAnew 80 = .ok (.iaload, 1) := by decide +kernel
theorem dL_isAnew_81 : decode cL_isAnew 81 = .ok (.iastore, 1) := by decide +kernel
theorem dL_isAnew_82 : decode cL_isAnew 82 = .ok (.iconst 0, 1) := by decide +kernel
theorem dL_isAnew_83 : decode cL_isAnew 83 = .ok (.istore 8, 2) := by decide +kernel
theorem dL_isAnew_85 : decode cL_isAnew 85 = .ok (.iload 8, 2) := by decide +kernel
theorem dL_isAnew_87 : decode cL_isAnew 87 = .ok (.aload 5, 2) := by decide +kernel
theorem dL_isAnew_89 : decode cL_isAnew 89 = .ok (.iload 7, 2) := by decide +kernel
theorem dL_isAnew_91 : decode cL_isAnew 91 = .ok (.iaload, 1) := by decide +kernel
theorem dL_isAnew_92 : decode cL_isAnew 92 = .ok (.if_icmp .ge 35, 3) := by decide +kernel
theorem dL_isAnew_95 : decode cL_isAnew 95 = .ok (.aload 4, 2) := by decide +kernel
theorem dL_isAnew_97 : decode cL_isAnew 97 = .ok (.bipush 10, 2) := by decide +kernel
theorem dL_isAnew_99 : decode cL_isAnew 99 = .ok (.iload 7, 2) := by decide +kernel
theorem dL_isAnew_101 : decode cL_isAnew 101 = .ok (.imul, 1) := by decide +kernel
theorem dL_isAnew_102 : decode cL_isAnew 102 = .ok (.iload 8, 2) := by decide +kernel
theorem dL_isAnew_104 : decode cL_isAnew 104 = .ok (.iadd, 1) := by decide +kernel
theorem dL_isAnew_105 : decode cL_isAnew 105 = .ok (.aload_n 1, 1) := by decide +kernel
theorem dL_isAnew_106 : decode cL_isAnew 106 = .ok (.bipush 10, 2) := by decide +kernel
theorem dL_isAnew_108 : decode cL_isAnew 108 = .ok (.aload_n 3, 1) := by decide +kernel
theorem dL_isAnew_109 : decode cL_isAnew 109 = .ok (.bipush 6, 2) := by decide +kernel
theorem dL_isAnew_111 : decode cL_isAnew 111 = .ok (.iload 7, 2) := by decide +kernel
theorem dL_isAnew_113 : decode cL_isAnew 113 = .ok (.iadd, 1) := by decide +kernel
theorem dL_isAnew_114 : decode cL_isAnew 114 = .ok (.iaload, 1) := by decide +kernel
theorem dL_isAnew_115 : decode cL_isAnew 115 = .ok (.imul, 1) := by decide +kernel
theorem dL_isAnew_116 : decode cL_isAnew 116 = .ok (.iload 8, 2) := by decide +kernel
theorem dL_isAnew_118 : decode cL_isAnew 118 = .ok (.iadd, 1) := by decide +kernel
theorem dL_isAnew_119 : decode cL_isAnew 119 = .ok (.laload, 1) := by decide +kernel
theorem dL_isAnew_120 : decode cL_isAnew 120 = .ok (.lastore, 1) := by decide +kernel
theorem dL_isAnew_121 : decode cL_isAnew 121 = .ok (.iinc 8 1, 3) := by decide +kernel
theorem dL_isAnew_124 : decode cL_isAnew 124 = .ok (.goto (-39), 3) := by decide +kernel
theorem dL_isAnew_127 : decode cL_isAnew 127 = .ok (.iinc 7 1, 3) := by decide +kernel
theorem dL_isAnew_130 : decode cL_isAnew 130 = .ok (.goto (-70), 3) := by decide +kernel
theorem dL_isAnew_133 : decode cL_isAnew 133 = .ok (.aload_n 3, 1) := by decide +kernel
theorem dL_isAnew_134 : decode cL_isAnew 134 = .ok (.aload 4, 2) := by decide +kernel
theorem dL_isAnew_136 : decode cL_isAnew 136 = .ok (.aload 5, 2) := by decide +kernel
theorem dL_isAnew_138 : decode cL_isAnew 138 = .ok (.aload 6, 2) := by decide +kernel
theorem dL_isAnew_140 : decode cL_isAnew 140 = .ok (.invokestatic 303, 3) := by decide +kernel
theorem dL_isAnew_143 : decode cL_isAnew 143 = .ok (.istore 7, 2) := by decide +kernel
theorem dL_isAnew_145 : decode cL_isAnew 145 = .ok (.aload_n 3, 1) := by decide +kernel
theorem dL_isAnew_146 : decode cL_isAnew 146 = .ok (.iconst 5, 1) := by decide +kernel
theorem dL_isAnew_147 : decode cL_isAnew 147 = .ok (.iaload, 1) := by decide +kernel
theorem dL_isAnew_148 : decode cL_isAnew 148 = .ok (.iconst 1, 1) := by decide +kernel
theorem dL_isAnew_149 : decode cL_isAnew 149 = .ok (.if_icmp .ne 7, 3) := by decide +kernel
theorem dL_isAnew_152 : decode cL_isAnew 152 = .ok (.iconst 3, 1) := by decide +kernel
theorem dL_isAnew_153 : decode cL_isAnew 153 = .ok (.goto 6, 3) := by decide +kernel
theorem dL_isAnew_156 : decode cL_isAnew 156 = .ok (.aload_n 3, 1) := by decide +kernel
theorem dL_isAnew_157 : decode cL_isAnew 157 = .ok (.iconst 3, 1) := by decide +kernel
theorem dL_isAnew_158 : decode cL_isAnew 158 = .ok (.iaload, 1) := by decide +kernel
theorem dL_isAnew_159 : decode cL_isAnew 159 = .ok (.istore 8, 2) := by decide +kernel
theorem dL_isAnew_161 : decode cL_isAnew 161 = .ok (.aload_n 0, 1) := by decide +kernel
theorem dL_isAnew_162 : decode cL_isAnew 162 = .ok (.invokestatic 293, 3) := by decide +kernel
theorem dL_isAnew_165 : decode cL_isAnew 165 = .ok (.iload 7, 2) := by decide +kernel
theorem dL_isAnew_167 : decode cL_isAnew 167 = .ok (.if_icmp .ne 41, 3) := by decide +kernel
theorem dL_isAnew_170 : decode cL_isAnew 170 = .ok (.aload_n 0, 1) := by decide +kernel
theorem dL_isAnew_171 : decode cL_isAnew 171 = .ok (.iload 7, 2) := by decide +kernel
theorem dL_isAnew_173 : decode cL_isAnew 173 = .ok (.iconst 0, 1) := by decide +kernel
theorem dL_isAnew_174 : decode cL_isAnew 174 = .ok (.invokestatic 296, 3) := by decide +kernel
theorem dL_isAnew_177 : decode cL_isAnew 177 = .ok (.sipush (-7100), 3) := by decide +kernel
theorem dL_isAnew_180 : decode cL_isAnew 180 = .ok (.if_icmp .ne 28, 3) := by decide +kernel
theorem dL_isAnew_183 : decode cL_isAnew 183 = .ok (.aload_n 0, 1) := by decide +kernel
theorem dL_isAnew_184 : decode cL_isAnew 184 = .ok (.iconst (-1), 1) := by decide +kernel
theorem dL_isAnew_185 : decode cL_isAnew 185 = .ok (.iconst 0, 1) := by decide +kernel
theorem dL_isAnew_186 : decode cL_isAnew 186 = .ok (.invokestatic 296, 3) := by decide +kernel
theorem dL_isAnew_189 : decode cL_isAnew 189 = .ok (.sipush (-7100), 3) := by decide +kernel
theorem dL_isAnew_192 : decode cL_isAnew 192 = .ok (.if_icmp .ne 16, 3) := by decide +kernel
theorem dL_isAnew_195 : decode cL_isAnew 195 = .ok (.aload_n 0, 1) := by decide +kernel
theorem dL_isAnew_196 : decode cL_isAnew 196 = .ok (.iconst 0, 1) := by decide +kernel
theorem dL_isAnew_197 : decode cL_isAnew 197 = .ok (.iload 8, 2) := by decide +kernel
theorem dL_isAnew_199 : decode cL_isAnew 199 = .ok (.invokestatic 296, 3) := by decide +kernel
theorem dL_isAnew_202 : decode cL_isAnew 202 = .ok (.sipush (-7100), 3) := by decide +kernel
theorem dL_isAnew_205 : decode cL_isAnew 205 = .ok (.if_icmp .eq 5, 3) := by decide +kernel
theorem dL_isAnew_208 : decode cL_isAnew 208 = .ok (.iconst 0, 1) := by decide +kernel
theorem dL_isAnew_209 : decode cL_isAnew 209 = .ok (.ireturn, 1) := by decide +kernel
theorem dL_isAnew_210 : decode cL_isAnew 210 = .ok (.iconst 0, 1) := by decide +kernel
theorem dL_isAnew_211 : decode cL_isAnew 211 = .ok (.istore 9, 2) := by decide +kernel
theorem dL_isAnew_213 : decode cL_isAnew 213 = .ok (.iload 9, 2) := by decide +kernel
theorem dL_isAnew_215 : decode cL_isAnew 215 = .ok (.iload 7, 2) := by decide +kernel
theorem dL_isAnew_217 : decode cL_isAnew 217 = .ok (.if_icmp .ge 48, 3) := by decide +kernel
theorem dL_isAnew_220 : decode cL_isAnew 220 = .ok (.iconst 0, 1) := by decide +kernel
theorem dL_isAnew_221 : decode cL_isAnew 221 = .ok (.istore 10, 2) := by decide +kernel
theorem dL_isAnew_223 : decode cL_isAnew 223 = .ok (.iload 10, 2) := by decide +kernel
theorem dL_isAnew_225 : decode cL_isAnew 225 = .ok (.iload 8, 2) := by decide +kernel
theorem dL_isAnew_227 : decode cL_isAnew 227 = .ok (.if_icmp .ge 32, 3) := by decide +kernel
theorem dL_isAnew_230 : decode cL_isAnew 230 = .ok (.aload_n 0, 1) := by decide +kernel
theorem dL_isAnew_231 : decode cL_isAnew 231 = .ok (.iload 9, 2) := by decide +kernel
theorem dL_isAnew_233 : decode cL_isAnew 233 = .ok (.iload 10, 2) := by decide +kernel
theorem dL_isAnew_235 : decode cL_isAnew 235 = .ok (.invokestatic 296, 3) := by decide +kernel
theorem dL_isAnew_238 : decode cL_isAnew 238 = .ok (.aload 6, 2) := by decide +kernel
theorem dL_isAnew_240 : decode cL_isAnew 240 = .ok (.iconst 3, 1) := by decide +kernel
theorem dL_isAnew_241 : decode cL_isAnew 241 = .ok (.iload 9, 2) := by decide +kernel
theorem dL_isAnew_243 : decode cL_isAnew 243 = .ok (.imul, 1) := by decide +kernel
theorem dL_isAnew_244 : decode cL_isAnew 244 = .ok (.iload 10, 2) := by decide +kernel
theorem dL_isAnew_246 : decode cL_isAnew 246 = .ok (.iadd, 1) := by decide +kernel
theorem dL_isAnew_247 : decode cL_isAnew 247 = .ok (.iaload, 1) := by decide +kernel
theorem dL_isAnew_248 : decode cL_isAnew 248 = .ok (.if_icmp .eq 5, 3) := by decide +kernel
theorem dL_isAnew_251 : decode cL_isAnew 251 = .ok (.iconst 0, 1) := by decide +kernel
theorem dL_isAnew_252 : decode cL_isAnew 252 = .ok (.ireturn, 1) := by decide +kernel
theorem dL_isAnew_253 : decode cL_isAnew 253 = .ok (.iinc 10 1, 3) := by decide +kernel
theorem dL_isAnew_256 : decode cL_isAnew 256 = .ok (.goto (-33), 3) := by decide +kernel
theorem dL_isAnew_259 : decode cL_isAnew 259 = .ok (.iinc 9 1, 3) := by decide +kernel
theorem dL_isAnew_262 : decode cL_isAnew 262 = .ok (.goto (-49), 3) := by decide +kernel
theorem dL_isAnew_265 : decode cL_isAnew 265 = .ok (.iconst 1, 1) := by decide +kernel
theorem dL_isAnew_266 : decode cL_isAnew 266 = .ok (.ireturn, 1) := by decide +kernel
theorem dL_steps_0 : decode cL_steps 0 = .ok (.iload_n 1, 1) := by decide +kernel
theorem dL_steps_1 : decode cL_steps 1 = .ok (.iconst 3, 1) := by decide +kernel
theorem dL_steps_2 : decode cL_steps 2 = .ok (.invokestatic 130, 3) := by decide +kernel
theorem dL_steps_5 : decode cL_steps 5 = .ok (.istore 7, 2) := by decide +kernel
theorem dL_steps_7 : decode cL_steps 7 = .ok (.iload_n 1, 1) := by decide +kernel
theorem dL_steps_8 : decode cL_steps 8 = .ok (.iconst 3, 1) := by decide +kernel
theorem dL_steps_9 : decode cL_steps 9 = .ok (.ishr, 1) := by decide +kernel
theorem dL_steps_10 : decode cL_steps 10 = .ok (.bipush 6, 2) := by decide +kernel
theorem dL_steps_12 : decode cL_steps 12 = .ok (.invokestatic 130, 3) := by decide +kernel
theorem dL_steps_15 : decode cL_steps 15 = .ok (.istore 8, 2) := by decide +kernel
theorem dL_steps_17 : decode cL_steps 17 = .ok (.aload_n 3, 1) := by decide +kernel
theorem dL_steps_18 : decode cL_steps 18 = .ok (.iload 8, 2) := by decide +kernel
theorem dL_steps_20 : decode cL_steps 20 = .ok (.iaload, 1) := by decide +kernel
theorem dL_steps_21 : decode cL_steps 21 = .ok (.ifCond .le 35, 3) := by decide +kernel
theorem dL_steps_24 : decode cL_steps 24 = .ok (.iload_n 2, 1) := by decide +kernel
theorem dL_steps_25 : decode cL_steps 25 = .ok (.bipush 6, 2) := by decide +kernel
theorem dL_steps_27 : decode cL_steps 27 = .ok (.iand, 1) := by decide +kernel
theorem dL_steps_28 : decode cL_steps 28 = .ok (.ifCond .le 28, 3) := by decide +kernel
theorem dL_steps_31 : decode cL_steps 31 = .ok (.aload 4, 2) := by decide +kernel
theorem dL_steps_33 : decode cL_steps 33 = .ok (.bipush 10, 2) := by decide +kernel
theorem dL_steps_35 : decode cL_steps 35 = .ok (.iload 8, 2) := by decide +kernel
theorem dL_steps_37 : decode cL_steps 37 = .ok (.imul, 1) := by decide +kernel
theorem dL_steps_38 : decode cL_steps 38 = .ok (.iload_n 2, 1) := by decide +kernel
theorem dL_steps_39 : decode cL_steps 39 = .ok (.iconst 3, 1) := by decide +kernel
theorem dL_steps_40 : decode cL_steps 40 = .ok (.ishr, 1) := by decide +kernel
theorem dL_steps_41 : decode cL_steps 41 = .ok (.aload_n 3, 1) := by decide +kernel
theorem dL_steps_42 : decode cL_steps 42 = .ok (.iload 8, 2) := by decide +kernel
theorem dL_steps_44 : decode cL_steps 44 = .ok (.iaload, 1) := by decide +kernel
theorem dL_steps_45 : decode cL_steps 45 = .ok (.invokestatic 130, 3) := by decide +kernel
theorem dL_steps_48 : decode cL_steps 48 = .ok (.iadd, 1) := by decide +kernel
theorem dL_steps_49 : decode cL_steps 49 = .ok (.laload, 1) := by decide +kernel
theorem dL_steps_50 : decode cL_steps 50 = .ok (.invokestatic 105, 3) := by decide +kernel
theorem dL_steps_53 : decode cL_steps 53 = .ok (.goto 11, 3) := by decide +kernel
theorem dL_steps_56 : decode cL_steps 56 = .ok (.iload_n 2, 1) := by decide +kernel
theorem dL_steps_57 : decode cL_steps 57 = .ok (.iconst 3, 1) := by decide +kernel
theorem dL_steps_58 : decode cL_steps 58 = .ok (.ishr, 1) := by decide +kernel
theorem dL_steps_59 : decode cL_steps 59 = .ok (.bipush 14, 2) := by decide +kernel
theorem dL_steps_61 : decode cL_steps 61 = .ok (.invokestatic 130, 3) := by decide +kernel
theorem dL_steps_64 : decode cL_steps 64 = .ok (.istore 9, 2) := by decide +kernel
theorem dL_steps_66 : decode cL_steps 66 = .ok (.iload 7, 2) := by decide +kernel
theorem dL_steps_68 : decode cL_steps 68 = .ok (.ifCond .ne 29, 3) := by decide +kernel
theorem dL_steps_71 : decode cL_steps 71 = .ok (.iload 8, 2) := by decide +kernel
theorem dL_steps_73 : decode cL_steps 73 = .ok (.iconst 1, 1) := by decide +kernel
theorem dL_steps_74 : decode cL_steps 74 = .ok (.if_icmp .le 14, 3) := by decide +kernel
theorem dL_steps_77 : decode cL_steps 77 = .ok (.iload_n 2, 1) := by decide +kernel
theorem dL_steps_78 : decode cL_steps 78 = .ok (.iconst 3, 1) := by decide +kernel
theorem dL_steps_79 : decode cL_steps 79 = .ok (.ishr, 1) := by decide +kernel
theorem dL_steps_80 : decode cL_steps 80 = .ok (.bipush 14, 2) := by decide +kernel
theorem dL_steps_82 : decode cL_steps 82 = .ok (.invokestatic 130, 3) := by decide +kernel
theorem dL_steps_85 : decode cL_steps 85 = .ok (.goto 14, 3) := by decide +kernel
theorem dL_steps_88 : decode cL_steps 88 = .ok (.iload_n 2, 1) := by decide +kernel
theorem dL_steps_89 : decode cL_steps 89 = .ok (.iconst 3, 1) := by decide +kernel
theorem dL_steps_90 : decode cL_steps 90 = .ok (.ishr, 1) := by decide +kernel
theorem dL_steps_91 : decode cL_steps 91 = .ok (.invokestatic 133, 3) := by decide +kernel
theorem dL_steps_94 : decode cL_steps 94 = .ok (.goto 5, 3) := by decide +kernel
theorem dL_steps_97 : decode cL_steps 97 = .ok (.iload 9, 2) := by decide +kernel
theorem dL_steps_99 : decode cL_steps 99 = .ok (.istore 10, 2) := by decide +kernel
theorem dL_steps_101 : decode cL_steps 101 = .ok (.iload 7, 2) := by decide +kernel
theorem dL_steps_103 : decode cL_steps 103 = .ok (.ifCond .ne 13, 3) := by decide +kernel
theorem dL_steps_106 : decode cL_steps 106 = .ok (.iload_n 2, 1) := by decide +kernel
theorem dL_steps_107 : decode cL_steps 107 = .ok (.bipush 9, 2) := by decide +kernel
theorem dL_steps_109 : decode cL_steps 109 = .ok (.ishr, 1) := by decide +kernel
theorem dL_steps_110 : decode cL_steps 110 = .ok (.invokestatic 133, 3) := by decide +kernel
theorem dL_steps_113 : decode cL_steps 113 = .ok (.goto 21, 3) := by decide +kernel
theorem dL_steps_116 : decode cL_steps 116 = .ok (.iload 7, 2) := by decide +kernel
theorem dL_steps_118 : decode cL_steps 118 = .ok (.iconst 1, 1) := by decide +kernel
theorem dL_steps_119 : decode cL_steps 119 = .ok (.if_icmp .ne 14, 3) := by decide +kernel
theorem dL_steps_122 : decode cL_steps 122 = .ok (.iload_n 2, 1) := by decide +kernel
theorem dL_steps_123 : decode cL_steps 123 = .ok (.bipush 9, 2) := by decide +kernel
theorem dL_steps_125 : decode cL_steps 125 = .ok (.ishr, 1) := by decide +kernel
theorem dL_steps_126 : decode cL_steps 126 = .ok (.iconst 4, 1) := by decide +kernel
theorem dL_steps_127 : decode cL_steps 127 = .ok (.invokestatic 130, 3) := by decide +kernel
theorem dL_steps_130 : decode cL_steps 130 = .ok (.goto 4, 3) := by decide +kernel
theorem dL_steps_133 : decode cL_steps 133 = .ok (.iconst 0, 1) := by decide +kernel
theorem dL_steps_134 : decode cL_steps 134 = .ok (.istore 11, 2) := by decide +kernel
theorem dL_steps_136 : decode cL_steps 136 = .ok (.iload 7, 2) := by decide +kernel
theorem dL_steps_138 : decode cL_steps 138 = .ok (.ifCond .ne 25, 3) := by decide +kernel
theorem dL_steps_141 : decode cL_steps 141 = .ok (.iload 8, 2) := by decide +kernel
theorem dL_steps_143 : decode cL_steps 143 = .ok (.iconst 2, 1) := by decide +kernel
theorem dL_steps_144 : decode cL_steps 144 = .ok (.idiv, 1) := by decide +kernel
theorem dL_steps_145 : decode cL_steps 145 = .ok (.iconst 1, 1) := by decide +kernel
theorem dL_steps_146 : decode cL_steps 146 = .ok (.if_icmp .ne 7, 3) := by decide +kernel
theorem dL_steps_149 : decode cL_steps 149 = .ok (.iconst 0, 1) := by decide +kernel
theorem dL_steps_150 : decode cL_steps 150 = .ok (.goto 30, 3) := by decide +kernel
theorem dL_steps_153 : decode cL_steps 153 = .ok (.iload_n 1, 1) := by decide +kernel
theorem dL_steps_154 : decode cL_steps 154 = .ok (.bipush 9, 2) := by decide +kernel
theorem dL_steps_156 : decode cL_steps 156 = .ok (.ishr, 1) := by decide +kernel
theorem dL_steps_157 : decode cL_steps 157 = .ok (.invokestatic 133, 3) := by decide +kernel
theorem dL_steps_160 : decode cL_steps 160 = .ok (.goto 20, 3) := by decide +kernel
theorem dL_steps_163 : decode cL_steps 163 = .ok (.iload 7, 2) := by decide +kernel
theorem dL_steps_165 : decode cL_steps 165 = .ok (.iconst 1, 1) := by decide +kernel
theorem dL_steps_166 : decode cL_steps 166 = .ok (.if_icmp .ne 13, 3) := by decide +kernel
theorem dL_steps_169 : decode cL_steps 169 = .ok (.iload_n 1, 1) := by decide +kernel
theorem dL_steps_170 : decode cL_steps 170 = .ok (.bipush 9, 2) := by decide +kernel
theorem dL_steps_172 : decode cL_steps 172 = .ok (.ishr, 1) := by decide +kernel
theorem dL_steps_173 : decode cL_steps 173 = .ok (.invokestatic 133, 3) := by decide +kernel
theorem dL_steps_176 : decode cL_steps 176 = .ok (.goto 4, 3) := by decide +kernel
theorem dL_steps_179 : decode cL_steps 179 = .ok (.iconst 0, 1) := by decide +kernel
theorem dL_steps_180 : decode cL_steps 180 = .ok (.istore 12, 2) := by decide +kernel
theorem dL_steps_182 : decode cL_steps 182 = .ok (.iload 7, 2) := by decide +kernel
theorem dL_steps_184 : decode cL_steps 184 = .ok (.ifCond .ne 21, 3) := by decide +kernel
theorem dL_steps_187 : decode cL_steps 187 = .ok (.iload 8, 2) := by decide +kernel
theorem dL_steps_189 : decode cL_steps 189 = .ok (.iconst 2, 1) := by decide +kernel
theorem dL_steps_190 : decode cL_steps 190 = .ok (.idiv, 1) := by decide +kernel
theorem dL_steps_191 : decode cL_steps 191 = .ok (.iconst 1, 1) := by decide +kernel
theorem dL_steps_192 : decode cL_steps 192 = .ok (.if_icmp .eq 13, 3) := by decide +kernel
theorem dL_steps_195 : decode cL_steps 195 = .ok (.iload_n 1, 1) := by decide +kernel
theorem dL_steps_196 : decode cL_steps 196 = .ok (.bipush 16, 2) := by decide +kernel
theorem dL_steps_198 : decode cL_steps 198 = .ok (.ishr, 1) := by decide +kernel
theorem dL_steps_199 : decode cL_steps 199 = .ok (.invokestatic 133, 3) := by decide +kernel
theorem dL_steps_202 : decode cL_steps 202 = .ok (.goto 4, 3) := by decide +kernel
theorem dL_steps_205 : decode cL_steps 205 = .ok (.iconst 0, 1) := by decide +kernel
theorem dL_steps_206 : decode cL_steps 206 = .ok (.istore 13, 2) := by decide +kernel
theorem dL_steps_208 : decode cL_steps 208 = .ok (.aload_n 0, 1) := by decide +kernel
theorem dL_steps_209 : decode cL_steps 209 = .ok (.iconst 0, 1) := by decide +kernel
theorem dL_steps_210 : decode cL_steps 210 = .ok (.bipush 6, 2) := by decide +kernel
theorem dL_steps_212 : decode cL_steps 212 = .ok (.iconst 0, 1) := by decide +kernel
theorem dL_steps_213 : decode cL_steps 213 = .ok (.iconst 0, 1) := by decide +kernel
theorem dL_steps_214 : decode cL_steps 214 = .ok (.iconst 0, 1) := by decide +kernel
theorem dL_steps_215 : decode cL_steps 215 = .ok (.iconst 0, 1) := by decide +kernel
theorem dL_steps_216 : decode cL_steps 216 = .ok (.invokestatic 309, 3) := by decide +kernel
theorem dL_steps_219 : decode cL_steps 219 = .ok (.sipush (-7100), 3) := by decide +kernel
theorem dL_steps_222 : decode cL_steps 222 = .ok (.if_icmp .ne 71, 3) := by decide +kernel
theorem dL_steps_225 : decode cL_steps 225 = .ok (.aload_n 0, 1) := by decide +kernel
theorem dL_steps_226 : decode cL_steps 226 = .ok (.iconst 3, 1) := by decide +kernel
theorem dL_steps_227 : decode cL_steps 227 = .ok (.iload 8, 2) := by decide +kernel
theorem dL_steps_229 : decode cL_steps 229 = .ok (.iconst 0, 1) := by decide +kernel
theorem dL_steps_230 : decode cL_steps 230 = .ok (.iconst 0, 1) := by decide +kernel
theorem dL_steps_231 : decode cL_steps 231 = .ok (.iconst 0, 1) := by decide +kernel
theorem dL_steps_232 : decode cL_steps 232 = .ok (.iconst 0, 1) := by decide +kernel
theorem dL_steps_233 : decode cL_steps 233 = .ok (.invokestatic 309, 3) := by decide +kernel
theorem dL_steps_236 : decode cL_steps 236 = .ok (.sipush (-7200), 3) := by decide +kernel
theorem dL_steps_239 : decode cL_steps 239 = .ok (.if_icmp .ne 54, 3) := by decide +kernel
theorem dL_steps_242 : decode cL_steps 242 = .ok (.aload_n 0, 1) := by decide +kernel
theorem dL_steps_243 : decode cL_steps 243 = .ok (.iconst 1, 1) := by decide +kernel
theorem dL_steps_244 : decode cL_steps 244 = .ok (.iload 8, 2) := by decide +kernel
theorem dL_steps_246 : decode cL_steps 246 = .ok (.iconst 0, 1) := by decide +kernel
theorem dL_steps_247 : decode cL_steps 247 = .ok (.iconst 0, 1) := by decide +kernel
theorem dL_steps_248 : decode cL_steps 248 = .ok (.iconst 0, 1) := by decide +kernel
theorem dL_steps_249 : decode cL_steps 249 = .ok (.iconst 1, 1) := by decide +kernel
theorem dL_steps_250 : decode cL_steps 250 = .ok (.invokestatic 309, 3) := by decide +kernel
theorem dL_steps_253 : decode cL_steps 253 = .ok (.sipush (-7200), 3) := by decide +kernel
theorem dL_steps_256 : decode cL_steps 256 = .ok (.if_icmp .ne 37, 3) := by decide +kernel
theorem dL_steps_259 : decode cL_steps 259 = .ok (.aload_n 0, 1) := by decide +kernel
theorem dL_steps_260 : decode cL_steps 260 = .ok (.iconst 2, 1) := by decide +kernel
theorem dL_steps_261 : decode cL_steps 261 = .ok (.iload 8, 2) := by decide +kernel
theorem dL_steps_263 : decode cL_steps 263 = .ok (.iconst 0, 1) := by decide +kernel
theorem dL_steps_264 : decode cL_steps 264 = .ok (.iconst 1, 1) := by decide +kernel
theorem dL_steps_265 : decode cL_steps 265 = .ok (.iconst 0, 1) := by decide +kernel
theorem dL_steps_266 : decode cL_steps 266 = .ok (.iconst 0, 1) := by decide +kernel
theorem dL_steps_267 : decode cL_steps 267 = .ok (.invokestatic 309, 3) := by decide +kernel
theorem dL_steps_270 : decode cL_steps 270 = .ok (.sipush (-7200), 3) := by decide +kernel
theorem dL_steps_273 : decode cL_steps 273 = .ok (.if_icmp .ne 20, 3) := by decide +kernel
theorem dL_steps_276 : decode cL_steps 276 = .ok (.aload_n 0, 1) := by decide +kernel
theorem dL_steps_277 : decode cL_steps 277 = .ok (.iconst 2, 1) := by decide +kernel
theorem dL_steps_278 : decode cL_steps 278 = .ok (.iload 8, 2) := by decide +kernel
theorem dL_steps_280 : decode cL_steps 280 = .ok (.iconst 0, 1) := by decide +kernel
theorem dL_steps_281 : decode cL_steps 281 = .ok (.iconst 0, 1) := by decide +kernel
theorem dL_steps_282 : decode cL_steps 282 = .ok (.iconst 1, 1) := by decide +kernel
theorem dL_steps_283 : decode cL_steps 283 = .ok (.iconst 0, 1) := by decide +kernel
theorem dL_steps_284 : decode cL_steps 284 = .ok (.invokestatic 309, 3) := by decide +kernel
theorem dL_steps_287 : decode cL_steps 287 = .ok (.sipush (-7200), 3) := by decide +kernel
theorem dL_steps_290 : decode cL_steps 290 = .ok (.if_icmp .eq 5, 3) := by decide +kernel
theorem dL_steps_293 : decode cL_steps 293 = .ok (.iconst 0, 1) := by decide +kernel
theorem dL_steps_294 : decode cL_steps 294 = .ok (.ireturn, 1) := by decide +kernel
theorem dL_steps_295 : decode cL_steps 295 = .ok (.aload 6, 2) := by decide +kernel
theorem dL_steps_297 : decode cL_steps 297 = .ok (.iconst 0, 1) := by decide +kernel
theorem dL_steps_298 : decode cL_steps 298 = .ok (.iaload, 1) := by decide +kernel
theorem dL_steps_299 : decode cL_steps 299 = .ok (.iconst 4, 1) := by decide +kernel
theorem dL_steps_300 : decode cL_steps 300 = .ok (.if_icmp .ne 31, 3) := by decide +kernel
theorem dL_steps_303 : decode cL_steps 303 = .ok (.aload_n 0, 1) := by decide +kernel
theorem dL_steps_304 : decode cL_steps 304 = .ok (.iload 7, 2) := by decide +kernel
theorem dL_steps_306 : decode cL_steps 306 = .ok (.iload 8, 2) := by decide +kernel
theorem dL_steps_308 : decode cL_steps 308 = .ok (.iload 10, 2) := by decide +kernel
theorem dL_steps_310 : decode cL_steps 310 = .ok (.iload 11, 2) := by decide +kernel
theorem dL_steps_312 : decode cL_steps 312 = .ok (.iload 12, 2) := by decide +kernel
theorem dL_steps_314 : decode cL_steps 314 = .ok (.iload 13, 2) := by decide +kernel
theorem dL_steps_316 : decode cL_steps 316 = .ok (.invokestatic 309, 3) := by decide +kernel
theorem dL_steps_319 : decode cL_steps 319 = .ok (.sipush (-7300), 3) := by decide +kernel
theorem dL_steps_322 : decode cL_steps 322 = .ok (.if_icmp .ne 7, 3) := by decide +kernel
theorem dL_steps_325 : decode cL_steps 325 = .ok (.iconst 1, 1) := by decide +kernel
theorem dL_steps_326 : decode cL_steps 326 = .ok (.goto 4, 3) := by decide +kernel
theorem dL_steps_329 : decode cL_steps 329 = .ok (.iconst 0, 1) := by decide +kernel
theorem dL_steps_330 : decode cL_steps 330 = .ok (.ireturn, 1) := by decide +kernel
theorem dL_steps_331 : decode cL_steps 331 = .ok (.bipush 6, 2) := by decide +kernel
theorem dL_steps_333 : decode cL_steps 333 = .ok (.aload 6, 2) := by decide +kernel
theorem dL_steps_335 : decode cL_steps 335 = .ok (.iconst 0, 1) := by decide +kernel
theorem dL_steps_336 : decode cL_steps 336 = .ok (.iaload, 1) := by decide +kernel
theorem dL_steps_337 : decode cL_steps 337 = .ok (.imul, 1) := by decide +kernel
theorem dL_steps_338 : decode cL_steps 338 = .ok (.istore 14, 2) := by decide +kernel
theorem dL_steps_340 : decode cL_steps 340 = .ok (.aload 5, 2) := by decide +kernel
theorem dL_steps_342 : decode cL_steps 342 = .ok (.iload 14, 2) := by decide +kernel
theorem dL_steps_344 : decode cL_steps 344 = .ok (.iload 7, 2) := by decide +kernel
theorem dL_steps_346 : decode cL_steps 346 = .ok (.iastore, 1) := by decide +kernel
theorem dL_steps_347 : decode cL_steps 347 = .ok (.aload 5, 2) := by decide +kernel
theorem dL_steps_349 : decode cL_steps 349 = .ok (.iload 14, 2) := by decide +kernel
theorem dL_steps_351 : decode cL_steps 351 = .ok (.iconst 1, 1) := by decide +kernel
theorem dL_steps_352 : decode cL_steps 352 = .ok (.iadd, 1) := by decide +kernel
theorem dL_steps_353 : decode cL_steps 353 = .ok (.iload 8, 2) := by decide +kernel
theorem dL_steps_355 : decode cL_steps 355 = .ok (.iastore, 1) := by decide +kernel
theorem dL_steps_356 : decode cL_steps 356 = .ok (.aload 5, 2) := by decide +kernel
theorem dL_steps_358 : decode cL_steps 358 = .ok (.iload 14, 2) := by decide +kernel
theorem dL_steps_360 : decode cL_steps 360 = .ok (.iconst 2, 1) := by decide +kernel
theorem dL_steps_361 : decode cL_steps 361 = .ok (.iadd, 1) := by decide +kernel
theorem dL_steps_362 : decode cL_steps 362 = .ok (.iload 10, 2) := by decide +kernel
theorem dL_steps_364 : decode cL_steps 364 = .ok (.iastore, 1) := by decide +kernel
theorem dL_steps_365 : decode cL_steps 365 = .ok (.aload 5, 2) := by decide +kernel
theorem dL_steps_367 : decode cL_steps 367 = .ok (.iload 14, 2) := by decide +kernel
theorem dL_steps_369 : decode cL_steps 369 = .ok (.iconst 3, 1) := by decide +kernel
theorem dL_steps_370 : decode cL_steps 370 = .ok (.iadd, 1) := by decide +kernel
theorem dL_steps_371 : decode cL_steps 371 = .ok (.iload 11, 2) := by decide +kernel
theorem dL_steps_373 : decode cL_steps 373 = .ok (.iastore, 1) := by decide +kernel
theorem dL_steps_374 : decode cL_steps 374 = .ok (.aload 5, 2) := by decide +kernel
theorem dL_steps_376 : decode cL_steps 376 = .ok (.iload 14, 2) := by decide +kernel
theorem dL_steps_378 : decode cL_steps 378 = .ok (.iconst 4, 1) := by decide +kernel
theorem dL_steps_379 : decode cL_steps 379 = .ok (.iadd, 1) := by decide +kernel
theorem dL_steps_380 : decode cL_steps 380 = .ok (.iload 12, 2) := by decide +kernel
theorem dL_steps_382 : decode cL_steps 382 = .ok (.iastore, 1) := by decide +kernel
theorem dL_steps_383 : decode cL_steps 383 = .ok (.aload 5, 2) := by decide +kernel
theorem dL_steps_385 : decode cL_steps 385 = .ok (.iload 14, 2) := by decide +kernel
theorem dL_steps_387 : decode cL_steps 387 = .ok (.iconst 5, 1) := by decide +kernel
theorem dL_steps_388 : decode cL_steps 388 = .ok (.iadd, 1) := by decide +kernel
theorem dL_steps_389 : decode cL_steps 389 = .ok (.iload 13, 2) := by decide +kernel
theorem dL_steps_391 : decode cL_steps 391 = .ok (.iastore, 1) := by decide +kernel
theorem dL_steps_392 : decode cL_steps 392 = .ok (.aload 6, 2) := by decide +kernel
theorem dL_steps_394 : decode cL_steps 394 = .ok (.iconst 0, 1) := by decide +kernel
theorem dL_steps_395 : decode cL_steps 395 = .ok (.dup2, 1) := by decide +kernel
theorem dL_steps_396 : decode cL_steps 396 = .ok (.iaload, 1) := by decide +kernel
theorem dL_steps_397 : decode cL_steps 397 = .ok (.iconst 1, 1) := by decide +kernel
theorem dL_steps_398 : decode cL_steps 398 = .ok (.iadd, 1) := by decide +kernel
theorem dL_steps_399 : decode cL_steps 399 = .ok (.iastore, 1) := by decide +kernel
theorem dL_steps_400 : decode cL_steps 400 = .ok (.aload_n 0, 1) := by decide +kernel
theorem dL_steps_401 : decode cL_steps 401 = .ok (.iload 7, 2) := by decide +kernel
theorem dL_steps_403 : decode cL_steps 403 = .ok (.iload 8, 2) := by decide +kernel
theorem dL_steps_405 : decode cL_steps 405 = .ok (.iload 10, 2) := by decide +kernel
theorem dL_steps_407 : decode cL_steps 407 = .ok (.iload 11, 2) := by decide +kernel
theorem dL_steps_409 : decode cL_steps 409 = .ok (.iload 12, 2) := by decide +kernel
theorem dL_steps_411 : decode cL_steps 411 = .ok (.iload 13, 2) := by decide +kernel
theorem dL_steps_413 : decode cL_steps 413 = .ok (.invokestatic 309, 3) := by decide +kernel
theorem dL_steps_416 : decode cL_steps 416 = .ok (.aload 6, 2) := by decide +kernel
theorem dL_steps_418 : decode cL_steps 418 = .ok (.iconst 0, 1) := by decide +kernel
theorem dL_steps_419 : decode cL_steps 419 = .ok (.iaload, 1) := by decide +kernel
theorem dL_steps_420 : decode cL_steps 420 = .ok (.if_icmp .ne 7, 3) := by decide +kernel
theorem dL_steps_423 : decode cL_steps 423 = .ok (.iconst 1, 1) := by decide +kernel
theorem dL_steps_424 : decode cL_steps 424 = .ok (.goto 4, 3) := by decide +kernel
theorem dL_steps_427 : decode cL_steps 427 = .ok (.iconst 0, 1) := by decide +kernel
theorem dL_steps_428 : decode cL_steps 428 = .ok (.ireturn, 1) := by decide +kernel
theorem dL_runs_0 : decode cL_runs 0 = .ok (.aload_n 2, 1) := by decide +kernel
theorem dL_runs_1 : decode cL_runs 1 = .ok (.iconst 0, 1) := by decide +kernel
theorem dL_runs_2 : decode cL_runs 2 = .ok (.iaload, 1) := by decide +kernel
theorem dL_runs_3 : decode cL_runs 3 = .ok (.ifCond .ne 19, 3) := by decide +kernel
theorem dL_runs_6 : decode cL_runs 6 = .ok (.aload_n 0, 1) := by decide +kernel
theorem dL_runs_7 : decode cL_runs 7 = .ok (.invokestatic 312, 3) := by decide +kernel
theorem dL_runs_10 : decode cL_runs 10 = .ok (.sipush (-7300), 3) := by decide +kernel
theorem dL_runs_13 : decode cL_runs 13 = .ok (.if_icmp .ne 7, 3) := by decide +kernel
theorem dL_runs_16 : decode cL_runs 16 = .ok (.iconst 1, 1) := by decide +kernel
theorem dL_runs_17 : decode cL_runs 17 = .ok (.goto 4, 3) := by decide +kernel
theorem dL_runs_20 : decode cL_runs 20 = .ok (.iconst 0, 1) := by decide +kernel
theorem dL_runs_21 : decode cL_runs 21 = .ok (.ireturn, 1) := by decide +kernel
theorem dL_runs_22 : decode cL_runs 22 = .ok (.iconst 4, 1) := by decide +kernel
theorem dL_runs_23 : decode cL_runs 23 = .ok (.newarray .long, 2) := by decide +kernel
theorem dL_runs_25 : decode cL_runs 25 = .ok (.astore 11, 2) := by decide +kernel
theorem dL_runs_27 : decode cL_runs 27 = .ok (.aload_n 2, 1) := by decide +kernel
theorem dL_runs_28 : decode cL_runs 28 = .ok (.iconst 0, 1) := by decide +kernel
theorem dL_runs_29 : decode cL_runs 29 = .ok (.iaload, 1) := by decide +kernel
theorem dL_runs_30 : decode cL_runs 30 = .ok (.istore 12, 2) := by decide +kernel
theorem dL_runs_32 : decode cL_runs 32 = .ok (.iconst (-1), 1) := by decide +kernel
theorem dL_runs_33 : decode cL_runs 33 = .ok (.istore 13, 2) := by decide +kernel
theorem dL_runs_35 : decode cL_runs 35 = .ok (.iconst (-1), 1) := by decide +kernel
theorem dL_runs_36 : decode cL_runs 36 = .ok (.istore 14, 2) := by decide +kernel
theorem dL_runs_38 : decode cL_runs 38 = .ok (.aload_n 2, 1) := by decide +kernel
theorem dL_runs_39 : decode cL_runs 39 = .ok (.iconst 0, 1) := by decide +kernel
theorem dL_runs_40 : decode cL_runs 40 = .ok (.iconst 0, 1) := by decide +kernel
theorem dL_runs_41 : decode cL_runs 41 = .ok (.iastore, 1) := by decide +kernel
theorem dL_runs_42 : decode cL_runs 42 = .ok (.iconst 0, 1) := by decide +kernel
theorem dL_runs_43 : decode cL_runs 43 = .ok (.istore 15, 2) := by decide +kernel
theorem dL_runs_45 : decode cL_runs 45 = .ok (.iload 15, 2) := by decide +kernel
theorem dL_runs_47 : decode cL_runs 47 = .ok (.iload 12, 2) := by decide +kernel
theorem dL_runs_49 : decode cL_runs 49 = .ok (.if_icmp .ge 158, 3) := by decide +kernel
theorem dL_runs_52 : decode cL_runs 52 = .ok (.iload 13, 2) := by decide +kernel
theorem dL_runs_54 : decode cL_runs 54 = .ok (.ifCond .ge 153, 3) := by decide +kernel
theorem dL_runs_57 : decode cL_runs 57 = .ok (.aload_n 1, 1) := by decide +kernel
theorem dL_runs_58 : decode cL_runs 58 = .ok (.bipush 6, 2) := by decide +kernel
theorem dL_runs_60 : decode cL_runs 60 = .ok (.iload 15, 2) := by decide +kernel
theorem dL_runs_62 : decode cL_runs 62 = .ok (.imul, 1) := by decide +kernel
theorem dL_runs_63 : decode cL_runs 63 = .ok (.iconst 1, 1) := by decide +kernel
theorem dL_runs_64 : decode cL_runs 64 = .ok (.iadd, 1) := by decide +kernel
theorem dL_runs_65 : decode cL_runs 65 = .ok (.iaload, 1) := by decide +kernel
theorem dL_runs_66 : decode cL_runs 66 = .ok (.istore 16, 2) := by decide +kernel
theorem dL_runs_68 : decode cL_runs 68 = .ok (.iload 16, 2) := by decide +kernel
theorem dL_runs_70 : decode cL_runs 70 = .ok (.iconst 2, 1) := by decide +kernel
theorem dL_runs_71 : decode cL_runs 71 = .ok (.idiv, 1) := by decide +kernel
theorem dL_runs_72 : decode cL_runs 72 = .ok (.istore 17, 2) := by decide +kernel
theorem dL_runs_74 : decode cL_runs 74 = .ok (.iconst 0, 1) := by decide +kernel
theorem dL_runs_75 : decode cL_runs 75 = .ok (.istore 18, 2) := by decide +kernel
theorem dL_runs_77 : decode cL_runs 77 = .ok (.iconst 1, 1) := by decide +kernel
theorem dL_runs_78 : decode cL_runs 78 = .ok (.istore 19, 2) := by decide +kernel
theorem dL_runs_80 : decode cL_runs 80 = .ok (.iconst 0, 1) := by decide +kernel
theorem dL_runs_81 : decode cL_runs 81 = .ok (.istore 20, 2) := by decide +kernel
theorem dL_runs_83 : decode cL_runs 83 = .ok (.iload 20, 2) := by decide +kernel
theorem dL_runs_85 : decode cL_runs 85 = .ok (.iconst 3, 1) := by decide +kernel
theorem dL_runs_86 : decode cL_runs 86 = .ok (.if_icmp .ge 98, 3) := by decide +kernel
theorem dL_runs_89 : decode cL_runs 89 = .ok (.iload 19, 2) := by decide +kernel
theorem dL_runs_91 : decode cL_runs 91 = .ok (.iconst 1, 1) := by decide +kernel
theorem dL_runs_92 : decode cL_runs 92 = .ok (.if_icmp .ne 92, 3) := by decide +kernel
theorem dL_runs_95 : decode cL_runs 95 = .ok (.aload 5, 2) := by decide +kernel
theorem dL_runs_97 : decode cL_runs 97 = .ok (.aload 6, 2) := by decide +kernel
theorem dL_runs_99 : decode cL_runs 99 = .ok (.aload 7, 2) := by decide +kernel
theorem dL_runs_101 : decode cL_runs 101 = .ok (.aload 8, 2) := by decide +kernel
theorem dL_runs_103 : decode cL_runs 103 = .ok (.aload 10, 2) := by decide +kernel
theorem dL_runs_105 : decode cL_runs 105 = .ok (.iload 17, 2) := by decide +kernel
theorem dL_runs_107 : decode cL_runs 107 = .ok (.iconst 0, 1) := by decide +kernel
theorem dL_runs_108 : decode cL_runs 108 = .ok (.invokestatic 225, 3) := by decide +kernel
theorem dL_runs_111 : decode cL_runs 111 = .ok (.istore 19, 2) := by decide +kernel
theorem dL_runs_113 : decode cL_runs 113 = .ok (.iload 18, 2) := by decide +kernel
theorem dL_runs_115 : decode cL_runs 115 = .ok (.ifCond .ne 63, 3) := by decide +kernel
theorem dL_runs_118 : decode cL_runs 118 = .ok (.iload 19, 2) := by decide +kernel
theorem dL_runs_120 : decode cL_runs 120 = .ok (.iconst 1, 1) := by decide +kernel
theorem dL_runs_121 : decode cL_runs 121 = .ok (.if_icmp .ne 17, 3) := by decide +kernel
theorem dL_runs_124 : decode cL_runs 124 = .ok (.aload 6, 2) := by decide +kernel
theorem dL_runs_126 : decode cL_runs 126 = .ok (.bipush 18, 2) := by decide +kernel
theorem dL_runs_128 : decode cL_runs 128 = .ok (.iload 17, 2) := by decide +kernel
theorem dL_runs_130 : decode cL_runs 130 = .ok (.iadd, 1) := by decide +kernel
theorem dL_runs_131 : decode cL_runs 131 = .ok (.iaload, 1) := by decide +kernel
theorem dL_runs_132 : decode cL_runs 132 = .ok (.ifCond .ne 6, 3) := by decide +kernel
theorem dL_runs_135 : decode cL_runs 135 = .ok (.goto 43, 3) := by decide +kernel
theorem dL_runs_138 : decode cL_runs 138 = .ok (.iconst 1, 1) := by decide +kernel
theorem dL_runs_139 : decode cL_runs 139 = .ok (.istore 18, 2) := by decide +kernel
theorem dL_runs_141 : decode cL_runs 141 = .ok (.aload_n 1, 1) := by decide +kernel
theorem dL_runs_142 : decode cL_runs 142 = .ok (.iload 15, 2) := by decide +kernel
theorem dL_runs_144 : decode cL_runs 144 = .ok (.aload 11, 2) := by decide +kernel
theorem dL_runs_146 : decode cL_runs 146 = .ok (.aload_n 3, 1) := by decide +kernel
theorem dL_runs_147 : decode cL_runs 147 = .ok (.aload 4, 2) := by decide +kernel
theorem dL_runs_149 : decode cL_runs 149 = .ok (.aload 9, 2) := by decide +kernel
theorem dL_runs_151 : decode cL_runs 151 = .ok (.aload 10, 2) := by decide +kernel
theorem dL_runs_153 : decode cL_runs 153 = .ok (.invokestatic 314, 3) := by decide +kernel
theorem dL_runs_156 : decode cL_runs 156 = .ok (.ifCond .eq 22, 3) := by decide +kernel
theorem dL_runs_159 : decode cL_runs 159 = .ok (.iload 15, 2) := by decide +kernel
theorem dL_runs_161 : decode cL_runs 161 = .ok (.istore 14, 2) := by decide +kernel
theorem dL_runs_163 : decode cL_runs 163 = .ok (.aload 7, 2) := by decide +kernel
theorem dL_runs_165 : decode cL_runs 165 = .ok (.aload 8, 2) := by decide +kernel
theorem dL_runs_167 : decode cL_runs 167 = .ok (.aload 5, 2) := by decide +kernel
theorem dL_runs_169 : decode cL_runs 169 = .ok (.aload 6, 2) := by decide +kernel
theorem dL_runs_171 : decode cL_runs 171 = .ok (.aload 10, 2) := by decide +kernel
theorem dL_runs_173 : decode cL_runs 173 = .ok (.iload 16, 2) := by decide +kernel
theorem dL_runs_175 : decode cL_runs 175 = .ok (.invokestatic 158, 3) := by decide +kernel
theorem dL_runs_178 : decode cL_runs 178 = .ok (.iinc 20 1, 3) := by decide +kernel
theorem dL_runs_181 : decode cL_runs 181 = .ok (.goto (-98), 3) := by decide +kernel
theorem dL_runs_184 : decode cL_runs 184 = .ok (.iload 19, 2) := by decide +kernel
theorem dL_runs_186 : decode cL_runs 186 = .ok (.iconst 2, 1) := by decide +kernel
theorem dL_runs_187 : decode cL_runs 187 = .ok (.if_icmp .ne 10, 3) := by decide +kernel
theorem dL_runs_190 : decode cL_runs 190 = .ok (.iload 14, 2) := by decide +kernel
theorem dL_runs_192 : decode cL_runs 192 = .ok (.iload 15, 2) := by decide +kernel
theorem dL_runs_194 : decode cL_runs 194 = .ok (.if_icmp .eq 7, 3) := by decide +kernel
theorem dL_runs_197 : decode cL_runs 197 = .ok (.iload 15, 2) := by decide +kernel
theorem dL_runs_199 : decode cL_runs 199 = .ok (.istore 13, 2) := by decide +kernel
theorem dL_runs_201 : decode cL_runs 201 = .ok (.iinc 15 1, 3) := by decide +kernel
theorem dL_runs_204 : decode cL_runs 204 = .ok (.goto (-159), 3) := by decide +kernel
theorem dL_runs_207 : decode cL_runs 207 = .ok (.iload 14, 2) := by decide +kernel
theorem dL_runs_209 : decode cL_runs 209 = .ok (.istore 15, 2) := by decide +kernel
theorem dL_runs_211 : decode cL_runs 211 = .ok (.iload 15, 2) := by decide +kernel
theorem dL_runs_213 : decode cL_runs 213 = .ok (.ifCond .lt 173, 3) := by decide +kernel
theorem dL_runs_216 : decode cL_runs 216 = .ok (.iload 13, 2) := by decide +kernel
theorem dL_runs_218 : decode cL_runs 218 = .ok (.ifCond .lt 168, 3) := by decide +kernel
theorem dL_runs_221 : decode cL_runs 221 = .ok (.aload_n 1, 1) := by decide +kernel
theorem dL_runs_222 : decode cL_runs 222 = .ok (.bipush 6, 2) := by decide +kernel
theorem dL_runs_224 : decode cL_runs 224 = .ok (.iload 15, 2) := by decide +kernel
theorem dL_runs_226 : decode cL_runs 226 = .ok (.imul, 1) := by decide +kernel
theorem dL_runs_227 : decode cL_runs 227 = .ok (.iconst 1, 1) := by decide +kernel
theorem dL_runs_228 : decode cL_runs 228 = .ok (.iadd, 1) := by decide +kernel
theorem dL_runs_229 : decode cL_runs 229 = .ok (.iaload, 1) := by decide +kernel
theorem dL_runs_230 : decode cL_runs 230 = .ok (.istore 16, 2) := by decide +kernel
theorem dL_runs_232 : decode cL_runs 232 = .ok (.aload 11, 2) := by decide +kernel
theorem dL_runs_234 : decode cL_runs 234 = .ok (.iload 15, 2) := by decide +kernel
theorem dL_runs_236 : decode cL_runs 236 = .ok (.laload, 1) := by decide +kernel
theorem dL_runs_237 : decode cL_runs 237 = .ok (.invokestatic 105, 3) := by decide +kernel
theorem dL_runs_240 : decode cL_runs 240 = .ok (.istore 17, 2) := by decide +kernel
theorem dL_runs_242 : decode cL_runs 242 = .ok (.aload_n 1, 1) := by decide +kernel
theorem dL_runs_243 : decode cL_runs 243 = .ok (.bipush 6, 2) := by decide +kernel
theorem dL_runs_245 : decode cL_runs 245 = .ok (.iload 15, 2) := by decide +kernel
theorem dL_runs_247 : decode cL_runs 247 = .ok (.imul, 1) := by decide +kernel
theorem dL_runs_248 : decode cL_runs 248 = .ok (.iaload, 1) := by decide +kernel
theorem dL_runs_249 : decode cL_runs 249 = .ok (.ifCond .ne 24, 3) := by decide +kernel
theorem dL_runs_252 : decode cL_runs 252 = .ok (.aload_n 3, 1) := by decide +kernel
theorem dL_runs_253 : decode cL_runs 253 = .ok (.aload 4, 2) := by decide +kernel
theorem dL_runs_255 : decode cL_runs 255 = .ok (.iload 16, 2) := by decide +kernel
theorem dL_runs_257 : decode cL_runs 257 = .ok (.aload_n 3, 1) := by decide +kernel
theorem dL_runs_258 : decode cL_runs 258 = .ok (.aload 4, 2) := by decide +kernel
theorem dL_runs_260 : decode cL_runs 260 = .ok (.iload 16, 2) := by decide +kernel
theorem dL_runs_262 : decode cL_runs 262 = .ok (.iload 17, 2) := by decide +kernel
theorem dL_runs_264 : decode cL_runs 264 = .ok (.invokestatic 121, 3) := by decide +kernel
theorem dL_runs_267 : decode cL_runs 267 = .ok (.invokestatic 180, 3) := by decide +kernel
theorem dL_runs_270 : decode cL_runs 270 = .ok (.goto 95, 3) := by decide +kernel
theorem dL_runs_273 : decode cL_runs 273 = .ok (.aload_n 1, 1) := by decide +kernel
theorem dL_runs_274 : decode cL_runs 274 = .ok (.bipush 6, 2) := by decide +kernel
theorem dL_runs_276 : decode cL_runs 276 = .ok (.iload 15, 2) := by decide +kernel
theorem dL_runs_278 : decode cL_runs 278 = .ok (.imul, 1) := by decide +kernel
theorem dL_runs_279 : decode cL_runs 279 = .ok (.iaload, 1) := by decide +kernel
theorem dL_runs_280 : decode cL_runs 280 = .ok (.iconst 2, 1) := by decide +kernel
theorem dL_runs_281 : decode cL_runs 281 = .ok (.if_icmp .ne 19, 3) := by decide +kernel
theorem dL_runs_284 : decode cL_runs 284 = .ok (.aload_n 3, 1) := by decide +kernel
theorem dL_runs_285 : decode cL_runs 285 = .ok (.aload 4, 2) := by decide +kernel
theorem dL_runs_287 : decode cL_runs 287 = .ok (.iload 16, 2) := by decide +kernel
theorem dL_runs_289 : decode cL_runs 289 = .ok (.aload 11, 2) := by decide +kernel
theorem dL_runs_291 : decode cL_runs 291 = .ok (.iload 15, 2) := by decide +kernel
theorem dL_runs_293 : decode cL_runs 293 = .ok (.laload, 1) := by decide +kernel
theorem dL_runs_294 : decode cL_runs 294 = .ok (.invokestatic 154, 3) := by decide +kernel
theorem dL_runs_297 : decode cL_runs 297 = .ok (.goto 68, 3) := by decide +kernel
theorem dL_runs_300 : decode cL_runs 300 = .ok (.aload_n 3, 1) := by decide +kernel
theorem dL_runs_301 : decode cL_runs 301 = .ok (.bipush 10, 2) := by decide +kernel
theorem dL_runs_303 : decode cL_runs 303 = .ok (.iload 16, 2) := by decide +kernel
theorem dL_runs_305 : decode cL_runs 305 = .ok (.imul, 1) := by decide +kernel
theorem dL_runs_306 : decode cL_runs 306 = .ok (.aload_n 3, 1) := by decide +kernel
theorem dL_runs_307 : decode cL_runs 307 = .ok (.aload 4, 2) := by decide +kernel
theorem dL_runs_309 : decode cL_runs 309 = .ok (.iload 16, 2) := by decide +kernel
theorem dL_runs_311 : decode cL_runs 311 = .ok (.iload 17, 2) := by decide +kernel
theorem dL_runs_313 : decode cL_runs 313 = .ok (.invokestatic 121, 3) := by decide +kernel
theorem dL_runs_316 : decode cL_runs 316 = .ok (.iadd, 1) := by decide +kernel
theorem dL_runs_317 : decode cL_runs 317 = .ok (.aload_n 3, 1) := by decide +kernel
theorem dL_runs_318 : decode cL_runs 318 = .ok (.bipush 10, 2) := by decide +kernel
theorem dL_runs_320 : decode cL_runs 320 = .ok (.iload 16, 2) := by decide +kernel
theorem dL_runs_322 : decode cL_runs 322 = .ok (.imul, 1) := by decide +kernel
theorem dL_runs_323 : decode cL_runs 323 = .ok (.aload_n 3, 1) := by decide +kernel
theorem dL_runs_324 : decode cL_runs 324 = .ok (.aload 4, 2) := by decide +kernel
theorem dL_runs_326 : decode cL_runs 326 = .ok (.iload 16, 2) := by decide +kernel
theorem dL_runs_328 : decode cL_runs 328 = .ok (.iload 17, 2) := by decide +kernel
theorem dL_runs_330 : decode cL_runs 330 = .ok (.invokestatic 121, 3) := by decide +kernel
theorem dL_runs_333 : decode cL_runs 333 = .ok (.iadd, 1) := by decide +kernel
theorem dL_runs_334 : decode cL_runs 334 = .ok (.laload, 1) := by decide +kernel
theorem dL_runs_335 : decode cL_runs 335 = .ok (.aload_n 1, 1) := by decide +kernel
theorem dL_runs_336 : decode cL_runs 336 = .ok (.bipush 6, 2) := by decide +kernel
theorem dL_runs_338 : decode cL_runs 338 = .ok (.iload 15, 2) := by decide +kernel
theorem dL_runs_340 : decode cL_runs 340 = .ok (.imul, 1) := by decide +kernel
theorem dL_runs_341 : decode cL_runs 341 = .ok (.iconst 3, 1) := by decide +kernel
theorem dL_runs_342 : decode cL_runs 342 = .ok (.iadd, 1) := by decide +kernel
theorem dL_runs_343 : decode cL_runs 343 = .ok (.iaload, 1) := by decide +kernel
theorem dL_runs_344 : decode cL_runs 344 = .ok (.aload 11, 2) := by decide +kernel
theorem dL_runs_346 : decode cL_runs 346 = .ok (.iload 15, 2) := by decide +kernel
theorem dL_runs_348 : decode cL_runs 348 = .ok (.laload, 1) := by decide +kernel
theorem dL_runs_349 : decode cL_runs 349 = .ok (.aload_n 1, 1) := by decide +kernel
theorem dL_runs_350 : decode cL_runs 350 = .ok (.bipush 6, 2) := by decide +kernel
theorem dL_runs_352 : decode cL_runs 352 = .ok (.iload 15, 2) := by decide +kernel
theorem dL_runs_354 : decode cL_runs 354 = .ok (.imul, 1) := by decide +kernel
theorem dL_runs_355 : decode cL_runs 355 = .ok (.iconst 3, 1) := by decide +kernel
theorem dL_runs_356 : decode cL_runs 356 = .ok (.iadd, 1) := by decide +kernel
theorem dL_runs_357 : decode cL_runs 357 = .ok (.iaload, 1) := by decide +kernel
theorem dL_runs_358 : decode cL_runs 358 = .ok (.invokestatic 169, 3) := by decide +kernel
theorem dL_runs_361 : decode cL_runs 361 = .ok (.invokestatic 173, 3) := by decide +kernel
theorem dL_runs_364 : decode cL_runs 364 = .ok (.lastore, 1) := by decide +kernel
theorem dL_runs_365 : decode cL_runs 365 = .ok (.aload 7, 2) := by decide +kernel
theorem dL_runs_367 : decode cL_runs 367 = .ok (.aload 8, 2) := by decide +kernel
theorem dL_runs_369 : decode cL_runs 369 = .ok (.aload 5, 2) := by decide +kernel
theorem dL_runs_371 : decode cL_runs 371 = .ok (.aload 6, 2) := by decide +kernel
theorem dL_runs_373 : decode cL_runs 373 = .ok (.aload 10, 2) := by decide +kernel
theorem dL_runs_375 : decode cL_runs 375 = .ok (.iload 16, 2) := by decide +kernel
theorem dL_runs_377 : decode cL_runs 377 = .ok (.invokestatic 158, 3) := by decide +kernel
theorem dL_runs_380 : decode cL_runs 380 = .ok (.iinc 15 (-1), 3) := by decide +kernel
theorem dL_runs_383 : decode cL_runs 383 = .ok (.goto (-172), 3) := by decide +kernel
theorem dL_runs_386 : decode cL_runs 386 = .ok (.aload_n 0, 1) := by decide +kernel
theorem dL_runs_387 : decode cL_runs 387 = .ok (.invokestatic 312, 3) := by decide +kernel
theorem dL_runs_390 : decode cL_runs 390 = .ok (.iload 13, 2) := by decide +kernel
theorem dL_runs_392 : decode cL_runs 392 = .ok (.if_icmp .ne 7, 3) := by decide +kernel
theorem dL_runs_395 : decode cL_runs 395 = .ok (.iconst 1, 1) := by decide +kernel
theorem dL_runs_396 : decode cL_runs 396 = .ok (.goto 4, 3) := by decide +kernel
theorem dL_runs_399 : decode cL_runs 399 = .ok (.iconst 0, 1) := by decide +kernel
theorem dL_runs_400 : decode cL_runs 400 = .ok (.ireturn, 1) := by decide +kernel
theorem dL_does_0 : decode cL_does 0 = .ok (.aload_n 0, 1) := by decide +kernel
theorem dL_does_1 : decode cL_does 1 = .ok (.bipush 6, 2) := by decide +kernel
theorem dL_does_3 : decode cL_does 3 = .ok (.iload_n 1, 1) := by decide +kernel
theorem dL_does_4 : decode cL_does 4 = .ok (.imul, 1) := by decide +kernel
theorem dL_does_5 : decode cL_does 5 = .ok (.iconst 1, 1) := by decide +kernel
theorem dL_does_6 : decode cL_does 6 = .ok (.iadd, 1) := by decide +kernel
theorem dL_does_7 : decode cL_does 7 = .ok (.iaload, 1) := by decide +kernel
theorem dL_does_8 : decode cL_does 8 = .ok (.istore 7, 2) := by decide +kernel
theorem dL_does_10 : decode cL_does 10 = .ok (.aload_n 0, 1) := by decide +kernel
theorem dL_does_11 : decode cL_does 11 = .ok (.bipush 6, 2) := by decide +kernel
theorem dL_does_13 : decode cL_does 13 = .ok (.iload_n 1, 1) := by decide +kernel
theorem dL_does_14 : decode cL_does 14 = .ok (.imul, 1) := by decide +kernel
theorem dL_does_15 : decode cL_does 15 = .ok (.iconst 2, 1) := by decide +kernel
theorem dL_does_16 : decode cL_does 16 = .ok (.iadd, 1) := by decide +kernel
theorem dL_does_17 : decode cL_does 17 = .ok (.iaload, 1) := by decide +kernel
theorem dL_does_18 : decode cL_does 18 = .ok (.istore 8, 2) := by decide +kernel
theorem dL_does_20 : decode cL_does 20 = .ok (.aload_n 0, 1) := by decide +kernel
theorem dL_does_21 : decode cL_does 21 = .ok (.bipush 6, 2) := by decide +kernel
theorem dL_does_23 : decode cL_does 23 = .ok (.iload_n 1, 1) := by decide +kernel
theorem dL_does_24 : decode cL_does 24 = .ok (.imul, 1) := by decide +kernel
theorem dL_does_25 : decode cL_does 25 = .ok (.iconst 3, 1) := by decide +kernel
theorem dL_does_26 : decode cL_does 26 = .ok (.iadd, 1) := by decide +kernel
theorem dL_does_27 : decode cL_does 27 = .ok (.iaload, 1) := by decide +kernel
theorem dL_does_28 : decode cL_does 28 = .ok (.istore 9, 2) := by decide +kernel
theorem dL_does_30 : decode cL_does 30 = .ok (.aload_n 0, 1) := by decide +kernel
theorem dL_does_31 : decode cL_does 31 = .ok (.bipush 6, 2) := by decide +kernel
theorem dL_does_33 : decode cL_does 33 = .ok (.iload_n 1, 1) := by decide +kernel
theorem dL_does_34 : decode cL_does 34 = .ok (.imul, 1) := by decide +kernel
theorem dL_does_35 : decode cL_does 35 = .ok (.iconst 4, 1) := by decide +kernel
theorem dL_does_36 : decode cL_does 36 = .ok (.iadd, 1) := by decide +kernel
theorem dL_does_37 : decode cL_does 37 = .ok (.iaload, 1) := by decide +kernel
theorem dL_does_38 : decode cL_does 38 = .ok (.istore 10, 2) := by decide +kernel
theorem dL_does_40 : decode cL_does 40 = .ok (.aload_n 0, 1) := by decide +kernel
theorem dL_does_41 : decode cL_does 41 = .ok (.bipush 6, 2) := by decide +kernel
theorem dL_does_43 : decode cL_does 43 = .ok (.iload_n 1, 1) := by decide +kernel
theorem dL_does_44 : decode cL_does 44 = .ok (.imul, 1) := by decide +kernel
theorem dL_does_45 : decode cL_does 45 = .ok (.iaload, 1) := by decide +kernel
theorem dL_does_46 : decode cL_does 46 = .ok (.ifCond .ne 114, 3) := by decide +kernel
theorem dL_does_49 : decode cL_does 49 = .ok (.aload_n 3, 1) := by decide +kernel
theorem dL_does_50 : decode cL_does 50 = .ok (.aload 4, 2) := by decide +kernel
theorem dL_does_52 : decode cL_does 52 = .ok (.aload 5, 2) := by decide +kernel
theorem dL_does_54 : decode cL_does 54 = .ok (.iload 7, 2) := by decide +kernel
theorem dL_does_56 : decode cL_does 56 = .ok (.iload 8, 2) := by decide +kernel
theorem dL_does_58 : decode cL_does 58 = .ok (.iload 9, 2) := by decide +kernel
theorem dL_does_60 : decode cL_does 60 = .ok (.iload 10, 2) := by decide +kernel
theorem dL_does_62 : decode cL_does 62 = .ok (.aload_n 0, 1) := by decide +kernel
theorem dL_does_63 : decode cL_does 63 = .ok (.bipush 6, 2) := by decide +kernel
theorem dL_does_65 : decode cL_does 65 = .ok (.iload_n 1, 1) := by decide +kernel
theorem dL_does_66 : decode cL_does 66 = .ok (.imul, 1) := by decide +kernel
theorem dL_does_67 : decode cL_does 67 = .ok (.iconst 5, 1) := by decide +kernel
theorem dL_does_68 : decode cL_does 68 = .ok (.iadd, 1) := by decide +kernel
theorem dL_does_69 : decode cL_does 69 = .ok (.iaload, 1) := by decide +kernel
theorem dL_does_70 : decode cL_does 70 = .ok (.invokestatic 142, 3) := by decide +kernel
theorem dL_does_73 : decode cL_does 73 = .ok (.ifCond .eq 5, 3) := by decide +kernel
theorem dL_does_76 : decode cL_does 76 = .ok (.iconst 0, 1) := by decide +kernel
theorem dL_does_77 : decode cL_does 77 = .ok (.ireturn, 1) := by decide +kernel
theorem dL_does_78 : decode cL_does 78 = .ok (.iload 7, 2) := by decide +kernel
theorem dL_does_80 : decode cL_does 80 = .ok (.iconst 1, 1) := by decide +kernel
theorem dL_does_81 : decode cL_does 81 = .ok (.if_icmp .le 8, 3) := by decide +kernel
theorem dL_does_84 : decode cL_does 84 = .ok (.iload 8, 2) := by decide +kernel
theorem dL_does_86 : decode cL_does 86 = .ok (.goto 11, 3) := by decide +kernel
theorem dL_does_89 : decode cL_does 89 = .ok (.aload 5, 2) := by decide +kernel
theorem dL_does_91 : decode cL_does 91 = .ok (.bipush 6, 2) := by decide +kernel
theorem dL_does_93 : decode cL_does 93 = .ok (.iload 7, 2) := by decide +kernel
theorem dL_does_95 : decode cL_does 95 = .ok (.iadd, 1) := by decide +kernel
theorem dL_does_96 : decode cL_does 96 = .ok (.iaload, 1) := by decide +kernel
theorem dL_does_97 : decode cL_does 97 = .ok (.istore 11, 2) := by decide +kernel
theorem dL_does_99 : decode cL_does 99 = .ok (.iload 7, 2) := by decide +kernel
theorem dL_does_101 : decode cL_does 101 = .ok (.iconst 2, 1) := by decide +kernel
theorem dL_does_102 : decode cL_does 102 = .ok (.if_icmp .ge 15, 3) := by decide +kernel
theorem dL_does_105 : decode cL_does 105 = .ok (.aload 5, 2) := by decide +kernel
theorem dL_does_107 : decode cL_does 107 = .ok (.bipush 6, 2) := by decide +kernel
theorem dL_does_109 : decode cL_does 109 = .ok (.iload 7, 2) := by decide +kernel
theorem dL_does_111 : decode cL_does 111 = .ok (.iadd, 1) := by decide +kernel
theorem dL_does_112 : decode cL_does 112 = .ok (.dup2, 1) := by decide +kernel
theorem dL_does_113 : decode cL_does 113 = .ok (.iaload, 1) := by decide +kernel
theorem dL_does_114 : decode cL_does 114 = .ok (.iconst 1, 1) := by decide +kernel
theorem dL_does_115 : decode cL_does 115 = .ok (.iadd, 1) := by decide +kernel
theorem dL_does_116 : decode cL_does 116 = .ok (.iastore, 1) := by decide +kernel
theorem dL_does_117 : decode cL_does 117 = .ok (.aload_n 2, 1) := by decide +kernel
theorem dL_does_118 : decode cL_does 118 = .ok (.iload_n 1, 1) := by decide +kernel
theorem dL_does_119 : decode cL_does 119 = .ok (.iload 11, 2) := by decide +kernel
theorem dL_does_121 : decode cL_does 121 = .ok (.iload 8, 2) := by decide +kernel
theorem dL_does_123 : decode cL_does 123 = .ok (.aload 6, 2) := by decide +kernel
theorem dL_does_125 : decode cL_does 125 = .ok (.iload 7, 2) := by decide +kernel
theorem dL_does_127 : decode cL_does 127 = .ok (.iconst 1, 1) := by decide +kernel
theorem dL_does_128 : decode cL_does 128 = .ok (.iload 9, 2) := by decide +kernel
theorem dL_does_130 : decode cL_does 130 = .ok (.invokestatic 146, 3) := by decide +kernel
theorem dL_does_133 : decode cL_does 133 = .ok (.iload 10, 2) := by decide +kernel
theorem dL_does_135 : decode cL_does 135 = .ok (.aload_n 0, 1) := by decide +kernel
theorem dL_does_136 : decode cL_does 136 = .ok (.bipush 6, 2) := by decide +kernel
theorem dL_does_138 : decode cL_does 138 = .ok (.iload_n 1, 1) := by decide +kernel
theorem dL_does_139 : decode cL_does 139 = .ok (.imul, 1) := by decide +kernel
theorem dL_does_140 : decode cL_does 140 = .ok (.iconst 5, 1) := by decide +kernel
theorem dL_does_141 : decode cL_does 141 = .ok (.iadd, 1) := by decide +kernel
theorem dL_does_142 : decode cL_does 142 = .ok (.iaload, 1) := by decide +kernel
theorem dL_does_143 : decode cL_does 143 = .ok (.invokestatic 150, 3) := by decide +kernel
theorem dL_does_146 : decode cL_does 146 = .ok (.lastore, 1) := by decide +kernel
theorem dL_does_147 : decode cL_does 147 = .ok (.aload_n 3, 1) := by decide +kernel
theorem dL_does_148 : decode cL_does 148 = .ok (.aload 4, 2) := by decide +kernel
theorem dL_does_150 : decode cL_does 150 = .ok (.iload 7, 2) := by decide +kernel
theorem dL_does_152 : decode cL_does 152 = .ok (.aload_n 2, 1) := by decide +kernel
theorem dL_does_153 : decode cL_does 153 = .ok (.iload_n 1, 1) := by decide +kernel
theorem dL_does_154 : decode cL_does 154 = .ok (.laload, 1) := by decide +kernel
theorem dL_does_155 : decode cL_does 155 = .ok (.invokestatic 154, 3) := by decide +kernel
theorem dL_does_158 : decode cL_does 158 = .ok (.iconst 1, 1) := by decide +kernel
theorem dL_does_159 : decode cL_does 159 = .ok (.ireturn, 1) := by decide +kernel
theorem dL_does_160 : decode cL_does 160 = .ok (.aload_n 3, 1) := by decide +kernel
theorem dL_does_161 : decode cL_does 161 = .ok (.aload 4, 2) := by decide +kernel
theorem dL_does_163 : decode cL_does 163 = .ok (.iload 7, 2) := by decide +kernel
theorem dL_does_165 : decode cL_does 165 = .ok (.iload 8, 2) := by decide +kernel
theorem dL_does_167 : decode cL_does 167 = .ok (.invokestatic 121, 3) := by decide +kernel
theorem dL_does_170 : decode cL_does 170 = .ok (.istore 11, 2) := by decide +kernel
theorem dL_does_172 : decode cL_does 172 = .ok (.aload_n 0, 1) := by decide +kernel
theorem dL_does_173 : decode cL_does 173 = .ok (.bipush 6, 2) := by decide +kernel
theorem dL_does_175 : decode cL_does 175 = .ok (.iload_n 1, 1) := by decide +kernel
theorem dL_does_176 : decode cL_does 176 = .ok (.imul, 1) := by decide +kernel
theorem dL_does_177 : decode cL_does 177 = .ok (.iaload, 1) := by decide +kernel
theorem dL_does_178 : decode cL_does 178 = .ok (.iconst 1, 1) := by decide +kernel
theorem dL_does_179 : decode cL_does 179 = .ok (.if_icmp .ne 20, 3) := by decide +kernel
theorem dL_does_182 : decode cL_does 182 = .ok (.aload_n 3, 1) := by decide +kernel
theorem dL_does_183 : decode cL_does 183 = .ok (.aload 4, 2) := by decide +kernel
theorem dL_does_185 : decode cL_does 185 = .ok (.iload 7, 2) := by decide +kernel
theorem dL_does_187 : decode cL_does 187 = .ok (.iload 8, 2) := by decide +kernel
theorem dL_does_189 : decode cL_does 189 = .ok (.iload 9, 2) := by decide +kernel
theorem dL_does_191 : decode cL_does 191 = .ok (.iload 10, 2) := by decide +kernel
theorem dL_does_193 : decode cL_does 193 = .ok (.invokestatic 165, 3) := by decide +kernel
theorem dL_does_196 : decode cL_does 196 = .ok (.ifCond .ne 8, 3) := by decide +kernel
theorem dL_does_199 : decode cL_does 199 = .ok (.iload 11, 2) := by decide +kernel
theorem dL_does_201 : decode cL_does 201 = .ok (.ifCond .ge 5, 3) := by decide +kernel
theorem dL_does_204 : decode cL_does 204 = .ok (.iconst 0, 1) := by decide +kernel
theorem dL_does_205 : decode cL_does 205 = .ok (.ireturn, 1) := by decide +kernel
theorem dL_does_206 : decode cL_does 206 = .ok (.aload_n 2, 1) := by decide +kernel
theorem dL_does_207 : decode cL_does 207 = .ok (.iload_n 1, 1) := by decide +kernel
theorem dL_does_208 : decode cL_does 208 = .ok (.aload_n 3, 1) := by decide +kernel
theorem dL_does_209 : decode cL_does 209 = .ok (.bipush 10, 2) := by decide +kernel
theorem dL_does_211 : decode cL_does 211 = .ok (.iload 7, 2) := by decide +kernel
theorem dL_does_213 : decode cL_does 213 = .ok (.imul, 1) := by decide +kernel
theorem dL_does_214 : decode cL_does 214 = .ok (.iload 11, 2) := by decide +kernel
theorem dL_does_216 : decode cL_does 216 = .ok (.iadd, 1) := by decide +kernel
theorem dL_does_217 : decode cL_does 217 = .ok (.laload, 1) := by decide +kernel
theorem dL_does_218 : decode cL_does 218 = .ok (.lastore, 1) := by decide +kernel
theorem dL_does_219 : decode cL_does 219 = .ok (.aload_n 0, 1) := by decide +kernel
theorem dL_does_220 : decode cL_does 220 = .ok (.bipush 6, 2) := by decide +kernel
theorem dL_does_222 : decode cL_does 222 = .ok (.iload_n 1, 1) := by decide +kernel
theorem dL_does_223 : decode cL_does 223 = .ok (.imul, 1) := by decide +kernel
theorem dL_does_224 : decode cL_does 224 = .ok (.iaload, 1) := by decide +kernel
theorem dL_does_225 : decode cL_does 225 = .ok (.iconst 1, 1) := by decide +kernel
theorem dL_does_226 : decode cL_does 226 = .ok (.if_icmp .ne 35, 3) := by decide +kernel
theorem dL_does_229 : decode cL_does 229 = .ok (.aload_n 3, 1) := by decide +kernel
theorem dL_does_230 : decode cL_does 230 = .ok (.bipush 10, 2) := by decide +kernel
theorem dL_does_232 : decode cL_does 232 = .ok (.iload 7, 2) := by decide +kernel
theorem dL_does_234 : decode cL_does 234 = .ok (.imul, 1) := by decide +kernel
theorem dL_does_235 : decode cL_does 235 = .ok (.iload 11, 2) := by decide +kernel
theorem dL_does_237 : decode cL_does 237 = .ok (.iadd, 1) := by decide +kernel
theorem dL_does_238 : decode cL_does 238 = .ok (.aload_n 2, 1) := by decide +kernel
theorem dL_does_239 : decode cL_does 239 = .ok (.iload_n 1, 1) := by decide +kernel
theorem dL_does_240 : decode cL_does 240 = .ok (.laload, 1) := by decide +kernel
theorem dL_does_241 : decode cL_does 241 = .ok (.iload 9, 2) := by decide +kernel
theorem dL_does_243 : decode cL_does 243 = .ok (.aload 6, 2) := by decide +kernel
theorem dL_does_245 : decode cL_does 245 = .ok (.iload 7, 2) := by decide +kernel
theorem dL_does_247 : decode cL_does 247 = .ok (.iload 9, 2) := by decide +kernel
theorem dL_does_249 : decode cL_does 249 = .ok (.iload 10, 2) := by decide +kernel
theorem dL_does_251 : decode cL_does 251 = .ok (.invokestatic 146, 3) := by decide +kernel
theorem dL_does_254 : decode cL_does 254 = .ok (.invokestatic 173, 3) := by decide +kernel
theorem dL_does_257 : decode cL_does 257 = .ok (.lastore, 1) := by decide +kernel
theorem dL_does_258 : decode cL_does 258 = .ok (.goto 13, 3) := by decide +kernel
theorem dL_does_261 : decode cL_does 261 = .ok (.aload_n 3, 1) := by decide +kernel
theorem dL_does_262 : decode cL_does 262 = .ok (.aload 4, 2) := by decide +kernel
theorem dL_does_264 : decode cL_does 264 = .ok (.iload 7, 2) := by decide +kernel
theorem dL_does_266 : decode cL_does 266 = .ok (.iload 11, 2) := by decide +kernel
theorem dL_does_268 : decode cL_does 268 = .ok (.invokestatic 180, 3) := by decide +kernel
theorem dL_does_271 : decode cL_does 271 = .ok (.iconst 1, 1) := by decide +kernel
theorem dL_does_272 : decode cL_does 272 = .ok (.ireturn, 1) := by decide +kernel
theorem dL_isTold_0 : decode cL_isTold 0 = .ok (.iconst 0, 1) := by decide +kernel
theorem dL_isTold_1 : decode cL_isTold 1 = .ok (.istore 7, 2) := by decide +kernel
theorem dL_isTold_3 : decode cL_isTold 3 = .ok (.iload 7, 2) := by decide +kernel
theorem dL_isTold_5 : decode cL_isTold 5 = .ok (.bipush 6, 2) := by decide +kernel
theorem dL_isTold_7 : decode cL_isTold 7 = .ok (.if_icmp .ge 178, 3) := by decide +kernel
theorem dL_isTold_10 : decode cL_isTold 10 = .ok (.aload_n 0, 1) := by decide +kernel
theorem dL_isTold_11 : decode cL_isTold 11 = .ok (.iload 7, 2) := by decide +kernel
theorem dL_isTold_13 : decode cL_isTold 13 = .ok (.invokestatic 139, 3) := by decide +kernel
theorem dL_isTold_16 : decode cL_isTold 16 = .ok (.aload_n 3, 1) := by decide +kernel
theorem dL_isTold_17 : decode cL_isTold 17 = .ok (.iload 7, 2) := by decide +kernel
theorem dL_isTold_19 : decode cL_isTold 19 = .ok (.iaload, 1) := by decide +kernel
theorem dL_isTold_20 : decode cL_isTold 20 = .ok (.if_icmp .ne 17, 3) := by decide +kernel
theorem dL_isTold_23 : decode cL_isTold 23 = .ok (.aload_n 0, 1) := by decide +kernel
theorem dL_isTold_24 : decode cL_isTold 24 = .ok (.iload 7, 2) := by decide +kernel
theorem dL_isTold_26 : decode cL_isTold 26 = .ok (.invokestatic 318, 3) := by decide +kernel
theorem dL_isTold_29 : decode cL_isTold 29 = .ok (.aload 4, 2) := by decide +kernel
theorem dL_isTold_31 : decode cL_isTold 31 = .ok (.iload 7, 2) := by decide +kernel
theorem dL_isTold_33 : decode cL_isTold 33 = .ok (.iaload, 1) := by decide +kernel
theorem dL_isTold_34 : decode cL_isTold 34 = .ok (.if_icmp .eq 5, 3) := by decide +kernel
theorem dL_isTold_37 : decode cL_isTold 37 = .ok (.iconst 0, 1) := by decide +kernel
theorem dL_isTold_38 : decode cL_isTold 38 = .ok (.ireturn, 1) := by decide +kernel
theorem dL_isTold_39 : decode cL_isTold 39 = .ok (.iconst 0, 1) := by decide +kernel
theorem dL_isTold_40 : decode cL_isTold 40 = .ok (.istore 8, 2) := by decide +kernel
theorem dL_isTold_42 : decode cL_isTold 42 = .ok (.iload 8, 2) := by decide +kernel
theorem dL_isTold_44 : decode cL_isTold 44 = .ok (.aload_n 3, 1) := by decide +kernel
theorem dL_isTold_45 : decode cL_isTold 45 = .ok (.iload 7, 2) := by decide +kernel
theorem dL_isTold_47 : decode cL_isTold 47 = .ok (.iaload, 1) := by decide +kernel
theorem dL_isTold_48 : decode cL_isTold 48 = .ok (.if_icmp .ge 94, 3) := by decide +kernel
theorem dL_isTold_51 : decode cL_isTold 51 = .ok (.aload_n 2, 1) := by decide +kernel
theorem dL_isTold_52 : decode cL_isTold 52 = .ok (.bipush 10, 2) := by decide +kernel
theorem dL_isTold_54 : decode cL_isTold 54 = .ok (.iload 7, 2) := by decide +kernel
theorem dL_isTold_56 : decode cL_isTold 56 = .ok (.imul, 1) := by decide +kernel
theorem dL_isTold_57 : decode cL_isTold 57 = .ok (.iload 8, 2) := by decide +kernel
theorem dL_isTold_59 : decode cL_isTold 59 = .ok (.iadd, 1) := by decide +kernel
theorem dL_isTold_60 : decode cL_isTold 60 = .ok (.laload, 1) := by decide +kernel
theorem dL_isTold_61 : decode cL_isTold 61 = .ok (.invokestatic 105, 3) := by decide +kernel
theorem dL_isTold_64 : decode cL_isTold 64 = .ok (.istore 9, 2) := by decide +kernel
theorem dL_isTold_66 : decode cL_isTold 66 = .ok (.iconst 0, 1) := by decide +kernel
theorem dL_isTold_67 : decode cL_isTold 67 = .ok (.istore 10, 2) := by decide +kernel
theorem dL_isTold_69 : decode cL_isTold 69 = .ok (.iload 10, 2) := by decide +kernel
theorem dL_isTold_71 : decode cL_isTold 71 = .ok (.iload 7, 2) := by decide +kernel
theorem dL_isTold_73 : decode cL_isTold 73 = .ok (.invokestatic 125, 3) := by decide +kernel
theorem dL_isTold_76 : decode cL_isTold 76 = .ok (.if_icmp .ge 39, 3) := by decide +kernel
theorem dL_isTold_79 : decode cL_isTold 79 = .ok (.aload_n 0, 1) := by decide +kernel
theorem dL_isTold_80 : decode cL_isTold 80 = .ok (.iload 7, 2) := by decide +kernel
theorem dL_isTold_82 : decode cL_isTold 82 = .ok (.iload 9, 2) := by decide +kernel
theorem dL_isTold_84 : decode cL_isTold 84 = .ok (.iload 10, 2) := by decide +kernel
theorem dL_isTold_86 : decode cL_isTold 86 = .ok (.invokestatic 320, 3) := by decide +kernel
theorem dL_isTold_89 : decode cL_isTold 89 = .ok (.aload_n 2, 1) := by decide +kernel
theorem dL_isTold_90 : decode cL_isTold 90 = .ok (.bipush 10, 2) := by decide +kernel
theorem dL_isTold_92 : decode cL_isTold 92 = .ok (.iload 7, 2) := by decide +kernel
theorem dL_isTold_94 : decode cL_isTold 94 = .ok (.imul, 1) := by decide +kernel
theorem dL_isTold_95 : decode cL_isTold 95 = .ok (.iload 8, 2) := by decide +kernel
theorem dL_isTold_97 : decode cL_isTold 97 = .ok (.iadd, 1) := by decide +kernel
theorem dL_isTold_98 : decode cL_isTold 98 = .ok (.laload, 1) := by decide +kernel
theorem dL_isTold_99 : decode cL_isTold 99 = .ok (.iload 10, 2) := by decide +kernel
theorem dL_isTold_101 : decode cL_isTold 101 = .ok (.invokestatic 169, 3) := by decide +kernel
theorem dL_isTold_104 : decode cL_isTold 104 = .ok (.if_icmp .eq 5, 3) := by decide +kernel
theorem dL_isTold_107 : decode cL_isTold 107 = .ok (.iconst 0, 1) := by decide +kernel
theorem dL_isTold_108 : decode cL_isTold 108 = .ok (.ireturn, 1) := by decide +kernel
theorem dL_isTold_109 : decode cL_isTold 109 = .ok (.iinc 10 1, 3) := by decide +kernel
theorem dL_isTold_112 : decode cL_isTold 112 = .ok (.goto (-43), 3) := by decide +kernel
theorem dL_isTold_115 : decode cL_isTold 115 = .ok (.aload_n 0, 1) := by decide +kernel
theorem dL_isTold_116 : decode cL_isTold 116 = .ok (.iload 7, 2) := by decide +kernel
theorem dL_isTold_118 : decode cL_isTold 118 = .ok (.iload 9, 2) := by decide +kernel
theorem dL_isTold_120 : decode cL_isTold 120 = .ok (.iload 7, 2) := by decide +kernel
theorem dL_isTold_122 : decode cL_isTold 122 = .ok (.invokestatic 125, 3) := by decide +kernel
theorem dL_isTold_125 : decode cL_isTold 125 = .ok (.invokestatic 320, 3) := by decide +kernel
theorem dL_isTold_128 : decode cL_isTold 128 = .ok (.sipush (-7100), 3) := by decide +kernel
theorem dL_isTold_131 : decode cL_isTold 131 = .ok (.if_icmp .eq 5, 3) := by decide +kernel
theorem dL_isTold_134 : decode cL_isTold 134 = .ok (.iconst 0, 1) := by decide +kernel
theorem dL_isTold_135 : decode cL_isTold 135 = .ok (.ireturn, 1) := by decide +kernel
theorem dL_isTold_136 : decode cL_isTold 136 = .ok (.iinc 8 1, 3) := by decide +kernel
theorem dL_isTold_139 : decode cL_isTold 139 = .ok (.goto (-97), 3) := by decide +kernel
theorem dL_isTold_142 : decode cL_isTold 142 = .ok (.iload_n 1, 1) := by decide +kernel
theorem dL_isTold_143 : decode cL_isTold 143 = .ok (.bipush 70, 2) := by decide +kernel
theorem dL_isTold_145 : decode cL_isTold 145 = .ok (.invokestatic 130, 3) := by decide +kernel
theorem dL_isTold_148 : decode cL_isTold 148 = .ok (.istore 8, 2) := by decide +kernel
theorem dL_isTold_150 : decode cL_isTold 150 = .ok (.aload_n 2, 1) := by decide +kernel
theorem dL_isTold_151 : decode cL_isTold 151 = .ok (.aload_n 3, 1) := by decide +kernel
theorem dL_isTold_152 : decode cL_isTold 152 = .ok (.iload 7, 2) := by decide +kernel
theorem dL_isTold_154 : decode cL_isTold 154 = .ok (.iload 8, 2) := by decide +kernel
theorem dL_isTold_156 : decode cL_isTold 156 = .ok (.invokestatic 121, 3) := by decide +kernel
theorem dL_isTold_159 : decode cL_isTold 159 = .ok (.ifCond .ge 20, 3) := by decide +kernel
theorem dL_isTold_162 : decode cL_isTold 162 = .ok (.aload_n 0, 1) := by decide +kernel
theorem dL_isTold_163 : decode cL_isTold 163 = .ok (.iload 7, 2) := by decide +kernel
theorem dL_isTold_165 : decode cL_isTold 165 = .ok (.iload 8, 2) := by decide +kernel
theorem dL_isTold_167 : decode cL_isTold 167 = .ok (.iconst 0, 1) := by decide +kernel
theorem dL_isTold_168 : decode cL_isTold 168 = .ok (.invokestatic 320, 3) := by decide +kernel
theorem dL_isTold_171 : decode cL_isTold 171 = .ok (.sipush (-7100), 3) := by decide +kernel
theorem dL_isTold_174 : decode cL_isTold 174 = .ok (.if_icmp .eq 5, 3) := by decide +kernel
theorem dL_isTold_177 : decode cL_isTold 177 = .ok (.iconst 0, 1) := by decide +kernel
theorem dL_isTold_178 : decode cL_isTold 178 = .ok (.ireturn, 1) := by decide +kernel
theorem dL_isTold_179 : decode cL_isTold 179 = .ok (.iinc 7 1, 3) := by decide +kernel
theorem dL_isTold_182 : decode cL_isTold 182 = .ok (.goto (-179), 3) := by decide +kernel
theorem dL_isTold_185 : decode cL_isTold 185 = .ok (.iconst 0, 1) := by decide +kernel
theorem dL_isTold_186 : decode cL_isTold 186 = .ok (.istore 7, 2) := by decide +kernel
theorem dL_isTold_188 : decode cL_isTold 188 = .ok (.iload 7, 2) := by decide +kernel
theorem dL_isTold_190 : decode cL_isTold 190 = .ok (.aload 5, 2) := by decide +kernel
theorem dL_isTold_192 : decode cL_isTold 192 = .ok (.bipush 15, 2) := by decide +kernel
theorem dL_isTold_194 : decode cL_isTold 194 = .ok (.iaload, 1) := by decide +kernel
theorem dL_isTold_195 : decode cL_isTold 195 = .ok (.if_icmp .ge 51, 3) := by decide +kernel
theorem dL_isTold_198 : decode cL_isTold 198 = .ok (.iconst 0, 1) := by decide +kernel
theorem dL_isTold_199 : decode cL_isTold 199 = .ok (.istore 8, 2) := by decide +kernel
theorem dL_isTold_201 : decode cL_isTold 201 = .ok (.iload 8, 2) := by decide +kernel
theorem dL_isTold_203 : decode cL_isTold 203 = .ok (.aload 5, 2) := by decide +kernel
theorem dL_isTold_205 : decode cL_isTold 205 = .ok (.bipush 16, 2) := by decide +kernel
theorem dL_isTold_207 : decode cL_isTold 207 = .ok (.iaload, 1) := by decide +kernel
theorem dL_isTold_208 : decode cL_isTold 208 = .ok (.if_icmp .ge 32, 3) := by decide +kernel
theorem dL_isTold_211 : decode cL_isTold 211 = .ok (.aload_n 0, 1) := by decide +kernel
theorem dL_isTold_212 : decode cL_isTold 212 = .ok (.iload 7, 2) := by decide +kernel
theorem dL_isTold_214 : decode cL_isTold 214 = .ok (.iload 8, 2) := by decide +kernel
theorem dL_isTold_216 : decode cL_isTold 216 = .ok (.invokestatic 323, 3) := by decide +kernel
theorem dL_isTold_219 : decode cL_isTold 219 = .ok (.aload 6, 2) := by decide +kernel
theorem dL_isTold_221 : decode cL_isTold 221 = .ok (.iconst 3, 1) := by decide +kernel
theorem dL_isTold_222 : decode cL_isTold 222 = .ok (.iload 7, 2) := by decide +kernel
theorem dL_isTold_224 : decode cL_isTold 224 = .ok (.imul, 1) := by decide +kernel
theorem dL_isTold_225 : decode cL_isTold 225 = .ok (.iload 8, 2) := by decide +kernel
theorem dL_isTold_227 : decode cL_isTold 227 = .ok (.iadd, 1) := by decide +kernel
theorem dL_isTold_228 : decode cL_isTold 228 = .ok (.iaload, 1) := by decide +kernel
theorem dL_isTold_229 : decode cL_isTold 229 = .ok (.if_icmp .eq 5, 3) := by decide +kernel
theorem dL_isTold_232 : decode cL_isTold 232 = .ok (.iconst 0, 1) := by decide +kernel
theorem dL_isTold_233 : decode cL_isTold 233 = .ok (.ireturn, 1) := by decide +kernel
theorem dL_isTold_234 : decode cL_isTold 234 = .ok (.iinc 8 1, 3) := by decide +kernel
theorem dL_isTold_237 : decode cL_isTold 237 = .ok (.goto (-36), 3) := by decide +kernel
theorem dL_isTold_240 : decode cL_isTold 240 = .ok (.iinc 7 1, 3) := by decide +kernel
theorem dL_isTold_243 : decode cL_isTold 243 = .ok (.goto (-55), 3) := by decide +kernel
theorem dL_isTold_246 : decode cL_isTold 246 = .ok (.aload_n 0, 1) := by decide +kernel
theorem dL_isTold_247 : decode cL_isTold 247 = .ok (.aload 5, 2) := by decide +kernel
theorem dL_isTold_249 : decode cL_isTold 249 = .ok (.bipush 15, 2) := by decide +kernel
theorem dL_isTold_251 : decode cL_isTold 251 = .ok (.iaload, 1) := by decide +kernel
theorem dL_isTold_252 : decode cL_isTold 252 = .ok (.iconst 0, 1) := by decide +kernel
theorem dL_isTold_253 : decode cL_isTold 253 = .ok (.invokestatic 323, 3) := by decide +kernel
theorem dL_isTold_256 : decode cL_isTold 256 = .ok (.sipush (-7100), 3) := by decide +kernel
theorem dL_isTold_259 : decode cL_isTold 259 = .ok (.if_icmp .ne 188, 3) := by decide +kernel
theorem dL_isTold_262 : decode cL_isTold 262 = .ok (.aload_n 0, 1) := by decide +kernel
theorem dL_isTold_263 : decode cL_isTold 263 = .ok (.iconst 0, 1) := by decide +kernel
theorem dL_isTold_264 : decode cL_isTold 264 = .ok (.aload 5, 2) := by decide +kernel
theorem dL_isTold_266 : decode cL_isTold 266 = .ok (.bipush 16, 2) := by decide +kernel
theorem dL_isTold_268 : decode cL_isTold 268 = .ok (.iaload, 1) := by decide +kernel
theorem dL_isTold_269 : decode cL_isTold 269 = .ok (.invokestatic 323, 3) := by decide +kernel
theorem dL_isTold_272 : decode cL_isTold 272 = .ok (.sipush (-7100), 3) := by decide +kernel
theorem dL_isTold_275 : decode cL_isTold 275 = .ok (.if_icmp .ne 172, 3) := by decide +kernel
theorem dL_isTold_278 : decode cL_isTold 278 = .ok (.aload_n 0, 1) := by decide +kernel
theorem dL_isTold_279 : decode cL_isTold 279 = .ok (.iconst (-1), 1) := by decide +kernel
theorem dL_isTold_280 : decode cL_isTold 280 = .ok (.iconst 0, 1) := by decide +kernel
theorem dL_isTold_281 : decode cL_isTold 281 = .ok (.invokestatic 323, 3) := by decide +kernel
theorem dL_isTold_284 : decode cL_isTold 284 = .ok (.sipush (-7100), 3) := by decide +kernel
theorem dL_isTold_287 : decode cL_isTold 287 = .ok (.if_icmp .ne 160, 3) := by decide +kernel
theorem dL_isTold_290 : decode cL_isTold 290 = .ok (.aload_n 0, 1) := by decide +kernel
theorem dL_isTold_291 : decode cL_isTold 291 = .ok (.invokevirtual 325, 3) := by decide +kernel
theorem dL_isTold_294 : decode cL_isTold 294 = .ok (.aload 5, 2) := by decide +kernel
theorem dL_isTold_296 : decode cL_isTold 296 = .ok (.bipush 15, 2) := by decide +kernel
theorem dL_isTold_298 : decode cL_isTold 298 = .ok (.iaload, 1) := by decide +kernel
theorem dL_isTold_299 : decode cL_isTold 299 = .ok (.if_icmp .ne 148, 3) := by decide +kernel
theorem dL_isTold_302 : decode cL_isTold 302 = .ok (.aload_n 0, 1) := by decide +kernel
theorem dL_isTold_303 : decode cL_isTold 303 = .ok (.invokevirtual 328, 3) := by decide +kernel
theorem dL_isTold_306 : decode cL_isTold 306 = .ok (.aload 5, 2) := by decide +kernel
theorem dL_isTold_308 : decode cL_isTold 308 = .ok (.bipush 11, 2) := by decide +kernel
theorem dL_isTold_310 : decode cL_isTold 310 = .ok (.iaload, 1) := by decide +kernel
theorem dL_isTold_311 : decode cL_isTold 311 = .ok (.if_icmp .ne 136, 3) := by decide +kernel
theorem dL_isTold_314 : decode cL_isTold 314 = .ok (.aload_n 0, 1) := by decide +kernel
theorem dL_isTold_315 : decode cL_isTold 315 = .ok (.invokevirtual 331, 3) := by decide +kernel
theorem dL_isTold_318 : decode cL_isTold 318 = .ok (.aload 5, 2) := by decide +kernel
theorem dL_isTold_320 : decode cL_isTold 320 = .ok (.bipush 12, 2) := by decide +kernel
theorem dL_isTold_322 : decode cL_isTold 322 = .ok (.iaload, 1) := by decide +kernel
theorem dL_isTold_323 : decode cL_isTold 323 = .ok (.if_icmp .ne 124, 3) := by decide +kernel
theorem dL_isTold_326 : decode cL_isTold 326 = .ok (.aload_n 0, 1) := by decide +kernel
theorem dL_isTold_327 : decode cL_isTold 327 = .ok (.invokevirtual 334, 3) := by decide +kernel
theorem dL_isTold_330 : decode cL_isTold 330 = .ok (.aload 5, 2) := by decide +kernel
theorem dL_isTold_332 : decode cL_isTold 332 = .ok (.bipush 7, 2) := by decide +kernel
theorem dL_isTold_334 : decode cL_isTold 334 = .ok (.iaload, 1) := by decide +kernel
theorem dL_isTold_335 : decode cL_isTold 335 = .ok (.if_icmp .ne 112, 3) := by decide +kernel
theorem dL_isTold_338 : decode cL_isTold 338 = .ok (.aload_n 0, 1) := by decide +kernel
theorem dL_isTold_339 : decode cL_isTold 339 = .ok (.invokevirtual 337, 3) := by decide +kernel
theorem dL_isTold_342 : decode cL_isTold 342 = .ok (.aload 5, 2) := by decide +kernel
theorem dL_isTold_344 : decode cL_isTold 344 = .ok (.bipush 8, 2) := by decide +kernel
theorem dL_isTold_346 : decode cL_isTold 346 = .ok (.iaload, 1) := by decide +kernel
theorem dL_isTold_347 : decode cL_isTold 347 = .ok (.if_icmp .ne 100, 3) := by decide +kernel
theorem dL_isTold_350 : decode cL_isTold 350 = .ok (.aload_n 0, 1) := by decide +kernel
theorem dL_isTold_351 : decode cL_isTold 351 = .ok (.invokevirtual 340, 3) := by decide +kernel
theorem dL_isTold_354 : decode cL_isTold 354 = .ok (.aload 5, 2) := by decide +kernel
theorem dL_isTold_356 : decode cL_isTold 356 = .ok (.bipush 9, 2) := by decide +kernel
theorem dL_isTold_358 : decode cL_isTold 358 = .ok (.iaload, 1) := by decide +kernel
theorem dL_isTold_359 : decode cL_isTold 359 = .ok (.if_icmp .ne 88, 3) := by decide +kernel
theorem dL_isTold_362 : decode cL_isTold 362 = .ok (.aload_n 0, 1) := by decide +kernel
theorem dL_isTold_363 : decode cL_isTold 363 = .ok (.invokevirtual 343, 3) := by decide +kernel
theorem dL_isTold_366 : decode cL_isTold 366 = .ok (.aload 5, 2) := by decide +kernel
theorem dL_isTold_368 : decode cL_isTold 368 = .ok (.iconst 2, 1) := by decide +kernel
theorem dL_isTold_369 : decode cL_isTold 369 = .ok (.iaload, 1) := by decide +kernel
theorem dL_isTold_370 : decode cL_isTold 370 = .ok (.if_icmp .ne 77, 3) := by decide +kernel
theorem dL_isTold_373 : decode cL_isTold 373 = .ok (.aload_n 0, 1) := by decide +kernel
theorem dL_isTold_374 : decode cL_isTold 374 = .ok (.invokevirtual 346, 3) := by decide +kernel
theorem dL_isTold_377 : decode cL_isTold 377 = .ok (.aload 5, 2) := by decide +kernel
theorem dL_isTold_379 : decode cL_isTold 379 = .ok (.iconst 0, 1) := by decide +kernel
theorem dL_isTold_380 : decode cL_isTold 380 = .ok (.iaload, 1) := by decide +kernel
theorem dL_isTold_381 : decode cL_isTold 381 = .ok (.if_icmp .ne 66, 3) := by decide +kernel
theorem dL_isTold_384 : decode cL_isTold 384 = .ok (.aload_n 0, 1) := by decide +kernel
theorem dL_isTold_385 : decode cL_isTold 385 = .ok (.invokevirtual 349, 3) := by decide +kernel
theorem dL_isTold_388 : decode cL_isTold 388 = .ok (.aload 5, 2) := by decide +kernel
theorem dL_isTold_390 : decode cL_isTold 390 = .ok (.iconst 1, 1) := by decide +kernel
theorem dL_isTold_391 : decode cL_isTold 391 = .ok (.iaload, 1) := by decide +kernel
theorem dL_isTold_392 : decode cL_isTold 392 = .ok (.if_icmp .ne 55, 3) := by decide +kernel
theorem dL_isTold_395 : decode cL_isTold 395 = .ok (.aload_n 0, 1) := by decide +kernel
theorem dL_isTold_396 : decode cL_isTold 396 = .ok (.invokevirtual 352, 3) := by decide +kernel
theorem dL_isTold_399 : decode cL_isTold 399 = .ok (.aload 5, 2) := by decide +kernel
theorem dL_isTold_401 : decode cL_isTold 401 = .ok (.iconst 3, 1) := by decide +kernel
theorem dL_isTold_402 : decode cL_isTold 402 = .ok (.iaload, 1) := by decide +kernel
theorem dL_isTold_403 : decode cL_isTold 403 = .ok (.if_icmp .ne 44, 3) := by decide +kernel
theorem dL_isTold_406 : decode cL_isTold 406 = .ok (.aload_n 0, 1) := by decide +kernel
theorem dL_isTold_407 : decode cL_isTold 407 = .ok (.bipush 6, 2) := by decide +kernel
theorem dL_isTold_409 : decode cL_isTold 409 = .ok (.invokestatic 139, 3) := by decide +kernel
theorem dL_isTold_412 : decode cL_isTold 412 = .ok (.sipush (-7100), 3) := by decide +kernel
theorem dL_isTold_415 : decode cL_isTold 415 = .ok (.if_icmp .ne 32, 3) := by decide +kernel
theorem dL_isTold_418 : decode cL_isTold 418 = .ok (.aload_n 0, 1) := by decide +kernel
theorem dL_isTold_419 : decode cL_isTold 419 = .ok (.iconst (-1), 1) := by decide +kernel
theorem dL_isTold_420 : decode cL_isTold 420 = .ok (.invokestatic 318, 3) := by decide +kernel
theorem dL_isTold_423 : decode cL_isTold 423 = .ok (.sipush (-7100), 3) := by decide +kernel
theorem dL_isTold_426 : decode cL_isTold 426 = .ok (.if_icmp .ne 21, 3) := by decide +kernel
theorem dL_isTold_429 : decode cL_isTold 429 = .ok (.aload_n 0, 1) := by decide +kernel
theorem dL_isTold_430 : decode cL_isTold 430 = .ok (.bipush 6, 2) := by decide +kernel
theorem dL_isTold_432 : decode cL_isTold 432 = .ok (.iconst 0, 1) := by decide +kernel
theorem dL_isTold_433 : decode cL_isTold 433 = .ok (.iconst 0, 1) := by decide +kernel
theorem dL_isTold_434 : decode cL_isTold 434 = .ok (.invokestatic 320, 3) := by decide +kernel
theorem dL_isTold_437 : decode cL_isTold 437 = .ok (.sipush (-7100), 3) := by decide +kernel
theorem dL_isTold_440 : decode cL_isTold 440 = .ok (.if_icmp .ne 7, 3) := by decide +kernel
theorem dL_isTold_443 : decode cL_isTold 443 = .ok (.iconst 1, 1) := by decide +kernel
theorem dL_isTold_444 : decode cL_isTold 444 = .ok (.goto 4, 3) := by decide +kernel
theorem dL_isTold_447 : decode cL_isTold 447 = .ok (.iconst 0, 1) := by decide +kernel
theorem dL_isTold_448 : decode cL_isTold 448 = .ok (.ireturn, 1) := by decide +kernel
theorem dL_law_0 : decode cL_law 0 = .ok (.new 9, 3) := by decide +kernel
theorem dL_law_3 : decode cL_law 3 = .ok (.dup, 1) := by decide +kernel
theorem dL_law_4 : decode cL_law 4 = .ok (.invokespecial 355, 3) := by decide +kernel
theorem dL_law_7 : decode cL_law 7 = .ok (.astore_n 1, 1) := by decide +kernel
theorem dL_law_8 : decode cL_law 8 = .ok (.bipush 60, 2) := by decide +kernel
theorem dL_law_10 : decode cL_law 10 = .ok (.newarray .long, 2) := by decide +kernel
theorem dL_law_12 : decode cL_law 12 = .ok (.astore_n 2, 1) := by decide +kernel
theorem dL_law_13 : decode cL_law 13 = .ok (.bipush 6, 2) := by decide +kernel
theorem dL_law_15 : decode cL_law 15 = .ok (.newarray .int, 2) := by decide +kernel
theorem dL_law_17 : decode cL_law 17 = .ok (.astore_n 3, 1) := by decide +kernel
theorem dL_law_18 : decode cL_law 18 = .ok (.bipush 64, 2) := by decide +kernel
theorem dL_law_20 : decode cL_law 20 = .ok (.newarray .int, 2) := by decide +kernel
theorem dL_law_22 : decode cL_law 22 = .ok (.astore 4, 2) := by decide +kernel
theorem dL_law_24 : decode cL_law 24 = .ok (.bipush 27, 2) := by decide +kernel
theorem dL_law_26 : decode cL_law 26 = .ok (.newarray .int, 2) := by decide +kernel
theorem dL_law_28 : decode cL_law 28 = .ok (.astore 5, 2) := by decide +kernel
theorem dL_law_30 : decode cL_law 30 = .ok (.bipush 43, 2) := by decide +kernel
theorem dL_law_32 : decode cL_law 32 = .ok (.newarray .int, 2) := by decide +kernel
theorem dL_law_34 : decode cL_law 34 = .ok (.astore 6, 2) := by decide +kernel
theorem dL_law_36 : decode cL_law 36 = .ok (.bipush 48, 2) := by decide +kernel
theorem dL_law_38 : decode cL_law 38 = .ok (.newarray .int, 2) := by decide +kernel
theorem dL_law_40 : decode cL_law 40 = .ok (.astore 7, 2) := by decide +kernel
theorem dL_law_42 : decode cL_law 42 = .ok (.bipush 60, 2) := by decide +kernel
theorem dL_law_44 : decode cL_law 44 = .ok (.newarray .long, 2) := by decide +kernel
theorem dL_law_46 : decode cL_law 46 = .ok (.astore 8, 2) := by decide +kernel
theorem dL_law_48 : decode cL_law 48 = .ok (.bipush 30, 2) := by decide +kernel
theorem dL_law_50 : decode cL_law 50 = .ok (.newarray .long, 2) := by decide +kernel
theorem dL_law_52 : decode cL_law 52 = .ok (.astore 9, 2) := by decide +kernel
theorem dL_law_54 : decode cL_law 54 = .ok (.iconst 3, 1) := by decide +kernel
theorem dL_law_55 : decode cL_law 55 = .ok (.newarray .int, 2) := by decide +kernel
theorem dL_law_57 : decode cL_law 57 = .ok (.astore 10, 2) := by decide +kernel
theorem dL_law_59 : decode cL_law 59 = .ok (.bipush 12, 2) := by decide +kernel
theorem dL_law_61 : decode cL_law 61 = .ok (.newarray .int, 2) := by decide +kernel
theorem dL_law_63 : decode cL_law 63 = .ok (.astore 11, 2) := by decide +kernel
theorem dL_law_65 : decode cL_law 65 = .ok (.bipush 17, 2) := by decide +kernel
theorem dL_law_67 : decode cL_law 67 = .ok (.newarray .int, 2) := by decide +kernel
theorem dL_law_69 : decode cL_law 69 = .ok (.astore 12, 2) := by decide +kernel
theorem dL_law_71 : decode cL_law 71 = .ok (.bipush 14, 2) := by decide +kernel
theorem dL_law_73 : decode cL_law 73 = .ok (.newarray .int, 2) := by decide +kernel
theorem dL_law_75 : decode cL_law 75 = .ok (.astore 13, 2) := by decide +kernel
theorem dL_law_77 : decode cL_law 77 = .ok (.bipush 60, 2) := by decide +kernel
theorem dL_law_79 : decode cL_law 79 = .ok (.newarray .int, 2) := by decide +kernel
theorem dL_law_81 : decode cL_law 81 = .ok (.astore 14, 2) := by decide +kernel
theorem dL_law_83 : decode cL_law 83 = .ok (.bipush 24, 2) := by decide +kernel
theorem dL_law_85 : decode cL_law 85 = .ok (.newarray .int, 2) := by decide +kernel
theorem dL_law_87 : decode cL_law 87 = .ok (.astore 15, 2) := by decide +kernel
theorem dL_law_89 : decode cL_law 89 = .ok (.iconst 1, 1) := by decide +kernel
theorem dL_law_90 : decode cL_law 90 = .ok (.newarray .int, 2) := by decide +kernel
theorem dL_law_92 : decode cL_law 92 = .ok (.astore 16, 2) := by decide +kernel
theorem dL_law_94 : decode cL_law 94 = .ok (.iconst 0, 1) := by decide +kernel
theorem dL_law_95 : decode cL_law 95 = .ok (.istore 17, 2) := by decide +kernel
theorem dL_law_97 : decode cL_law 97 = .ok (.iload 17, 2) := by decide +kernel
theorem dL_law_99 : decode cL_law 99 = .ok (.iconst 3, 1) := by decide +kernel
theorem dL_law_100 : decode cL_law 100 = .ok (.if_icmp .ge 45, 3) := by decide +kernel
theorem dL_law_103 : decode cL_law 103 = .ok (.aload 5, 2) := by decide +kernel
theorem dL_law_105 : decode cL_law 105 = .ok (.iload 17, 2) := by decide +kernel
theorem dL_law_107 : decode cL_law 107 = .ok (.iconst 1, 1) := by decide +kernel
theorem dL_law_108 : decode cL_law 108 = .ok (.iastore, 1) := by decide +kernel
theorem dL_law_109 : decode cL_law 109 = .ok (.aload 5, 2) := by decide +kernel
theorem dL_law_111 : decode cL_law 111 = .ok (.bipush 6, 2) := by decide +kernel
theorem dL_law_113 : decode cL_law 113 = .ok (.iload 17, 2) := by decide +kernel
theorem dL_law_115 : decode cL_law 115 = .ok (.iadd, 1) := by decide +kernel
theorem dL_law_116 : decode cL_law 116 = .ok (.bipush 20, 2) := by decide +kernel
theorem dL_law_118 : decode cL_law 118 = .ok (.iastore, 1) := by decide +kernel
theorem dL_law_119 : decode cL_law 119 = .ok (.aload 5, 2) := by decide +kernel
theorem dL_law_121 : decode cL_law 121 = .ok (.bipush 9, 2) := by decide +kernel
theorem dL_law_123 : decode cL_law 123 = .ok (.iload 17, 2) := by decide +kernel
theorem dL_law_125 : decode cL_law 125 = .ok (.iadd, 1) := by decide +kernel
theorem dL_law_126 : decode cL_law 126 = .ok (.bipush 12, 2) := by decide +kernel
theorem dL_law_128 : decode cL_law 128 = .ok (.iastore, 1) := by decide +kernel
theorem dL_law_129 : decode cL_law 129 = .ok (.aload 5, 2) := by decide +kernel
theorem dL_law_131 : decode cL_law 131 = .ok (.bipush 12, 2) := by decide +kernel
theorem dL_law_133 : decode cL_law 133 = .ok (.iload 17, 2) := by decide +kernel
theorem dL_law_135 : decode cL_law 135 = .ok (.iadd, 1) := by decide +kernel
theorem dL_law_136 : decode cL_law 136 = .ok (.bipush 60, 2) := by decide +kernel
theorem dL_law_138 : decode cL_law 138 = .ok (.iastore, 1) := by decide +kernel
theorem dL_law_139 : decode cL_law 139 = .ok (.iinc 17 1, 3) := by decide +kernel
theorem dL_law_142 : decode cL_law 142 = .ok (.goto (-45), 3) := by decide +kernel
theorem dL_law_145 : decode cL_law 145 = .ok (.iconst 0, 1) := by decide +kernel
theorem dL_law_146 : decode cL_law 146 = .ok (.istore 17, 2) := by decide +kernel
theorem dL_law_148 : decode cL_law 148 = .ok (.iload 17, 2) := by decide +kernel
theorem dL_law_150 : decode cL_law 150 = .ok (.bipush 6, 2) := by decide +kernel
theorem dL_law_152 : decode cL_law 152 = .ok (.if_icmp .ge 16, 3) := by decide +kernel
theorem dL_law_155 : decode cL_law 155 = .ok (.aload 13, 2) := by decide +kernel
theorem dL_law_157 : decode cL_law 157 = .ok (.iload 17, 2) := by decide +kernel
theorem dL_law_159 : decode cL_law 159 = .ok (.bipush 10, 2) := by decide +kernel
theorem dL_law_161 : decode cL_law 161 = .ok (.iastore, 1) := by decide +kernel
theorem dL_law_162 : decode cL_law 162 = .ok (.iinc 17 1, 3) := by decide +kernel
theorem dL_law_165 : decode cL_law 165 = .ok (.goto (-17), 3) := by decide +kernel
theorem dL_law_168 : decode cL_law 168 = .ok (.aload 6, 2) := by decide +kernel
theorem dL_law_170 : decode cL_law 170 = .ok (.iconst 4, 1) := by decide +kernel
theorem dL_law_171 : decode cL_law 171 = .ok (.bipush 20, 2) := by decide +kernel
theorem dL_law_173 : decode cL_law 173 = .ok (.iastore, 1) := by decide +kernel
theorem dL_law_174 : decode cL_law 174 = .ok (.aload 12, 2) := by decide +kernel
theorem dL_law_176 : decode cL_law 176 = .ok (.bipush 12, 2) := by decide +kernel
theorem dL_law_178 : decode cL_law 178 = .ok (.iconst (-1), 1) := by decide +kernel
theorem dL_law_179 : decode cL_law 179 = .ok (.iastore, 1) := by decide +kernel
theorem dL_law_180 : decode cL_law 180 = .ok (.aload_n 1, 1) := by decide +kernel
theorem dL_law_181 : decode cL_law 181 = .ok (.bipush 20, 2) := by decide +kernel
theorem dL_law_183 : decode cL_law 183 = .ok (.iconst 0, 1) := by decide +kernel
theorem dL_law_184 : decode cL_law 184 = .ok (.invokestatic 206, 3) := by decide +kernel
theorem dL_law_187 : decode cL_law 187 = .ok (.ifCond .eq 5, 3) := by decide +kernel
theorem dL_law_190 : decode cL_law 190 = .ok (.iconst 0, 1) := by decide +kernel
theorem dL_law_191 : decode cL_law 191 = .ok (.ireturn, 1) := by decide +kernel
theorem dL_law_192 : decode cL_law 192 = .ok (.iconst 0, 1) := by decide +kernel
theorem dL_law_193 : decode cL_law 193 = .ok (.istore 17, 2) := by decide +kernel
theorem dL_law_195 : decode cL_law 195 = .ok (.iload 17, 2) := by decide +kernel
theorem dL_law_197 : decode cL_law 197 = .ok (.sipush 150, 3) := by decide +kernel
theorem dL_law_200 : decode cL_law 200 = .ok (.if_icmp .ge 423, 3) := by decide +kernel
theorem dL_law_203 : decode cL_law 203 = .ok (.aload_n 0, 1) := by decide +kernel
theorem dL_law_204 : decode cL_law 204 = .ok (.iconst 3, 1) := by decide +kernel
theorem dL_law_205 : decode cL_law 205 = .ok (.iload 17, 2) := by decide +kernel
theorem dL_law_207 : decode cL_law 207 = .ok (.imul, 1) := by decide +kernel
theorem dL_law_208 : decode cL_law 208 = .ok (.invokestatic 356, 3) := by decide +kernel
theorem dL_law_211 : decode cL_law 211 = .ok (.bipush 62, 2) := by decide +kernel
theorem dL_law_213 : decode cL_law 213 = .ok (.invokestatic 130, 3) := by decide +kernel
theorem dL_law_216 : decode cL_law 216 = .ok (.istore 18, 2) := by decide +kernel
theorem dL_law_218 : decode cL_law 218 = .ok (.aload_n 0, 1) := by decide +kernel
theorem dL_law_219 : decode cL_law 219 = .ok (.iconst 3, 1) := by decide +kernel
theorem dL_law_220 : decode cL_law 220 = .ok (.iload 17, 2) := by decide +kernel
theorem dL_law_222 : decode cL_law 222 = .ok (.imul, 1) := by decide +kernel
theorem dL_law_223 : decode cL_law 223 = .ok (.iconst 1, 1) := by decide +kernel
theorem dL_law_224 : decode cL_law 224 = .ok (.iadd, 1) := by decide +kernel
theorem dL_law_225 : decode cL_law 225 = .ok (.invokestatic 356, 3) := by decide +kernel
theorem dL_law_228 : decode cL_law 228 = .ok (.istore 19, 2) := by decide +kernel
theorem dL_law_230 : decode cL_law 230 = .ok (.aload_n 0, 1) := by decide +kernel
theorem dL_law_231 : decode cL_law 231 = .ok (.iconst 3, 1) := by decide +kernel
theorem dL_law_232 : decode cL_law 232 = .ok (.iload 17, 2) := by decide +kernel
theorem dL_law_234 : decode cL_law 234 = .ok (.imul, 1) := by decide +kernel
theorem dL_law_235 : decode cL_law 235 = .ok (.iconst 2, 1) := by decide +kernel
theorem dL_law_236 : decode cL_law 236 = .ok (.iadd, 1) := by decide +kernel
theorem dL_law_237 : decode cL_law 237 = .ok (.invokestatic 356, 3) := by decide +kernel
theorem dL_law_240 : decode cL_law 240 = .ok (.istore 20, 2) := by decide +kernel
theorem dL_law_242 : decode cL_law 242 = .ok (.iload 17, 2) := by decide +kernel
theorem dL_law_244 : decode cL_law 244 = .ok (.bipush 24, 2) := by decide +kernel
theorem dL_law_246 : decode cL_law 246 = .ok (.if_icmp .ge 18, 3) := by decide +kernel
theorem dL_law_249 : decode cL_law 249 = .ok (.iload 17, 2) := by decide +kernel
theorem dL_law_251 : decode cL_law 251 = .ok (.iconst 2, 1) := by decide +kernel
theorem dL_law_252 : decode cL_law 252 = .ok (.irem, 1) := by decide +kernel
theorem dL_law_253 : decode cL_law 253 = .ok (.ifCond .ne 7, 3) := by decide +kernel
theorem dL_law_256 : decode cL_law 256 = .ok (.iconst 0, 1) := by decide +kernel
theorem dL_law_257 : decode cL_law 257 = .ok (.goto 5, 3) := by decide +kernel
theorem dL_law_260 : decode cL_law 260 = .ok (.iload 18, 2) := by decide +kernel
theorem dL_law_262 : decode cL_law 262 = .ok (.istore 18, 2) := by decide +kernel
theorem dL_law_264 : decode cL_law 264 = .ok (.aload 12, 2) := by decide +kernel
theorem dL_law_266 : decode cL_law 266 = .ok (.iconst 0, 1) := by decide +kernel
theorem dL_law_267 : decode cL_law 267 = .ok (.iaload, 1) := by decide +kernel
theorem dL_law_268 : decode cL_law 268 = .ok (.bipush 52, 2) := by decide +kernel
theorem dL_law_270 : decode cL_law 270 = .ok (.if_icmp .le 5, 3) := by decide +kernel
theorem dL_law_273 : decode cL_law 273 = .ok (.iconst 1, 1) := by decide +kernel
theorem dL_law_274 : decode cL_law 274 = .ok (.ireturn, 1) := by decide +kernel
theorem dL_law_275 : decode cL_law 275 = .ok (.iload 18, 2) := by decide +kernel
theorem dL_law_277 : decode cL_law 277 = .ok (.bipush 12, 2) := by decide +kernel
theorem dL_law_279 : decode cL_law 279 = .ok (.if_icmp .ge 54, 3) := by decide +kernel
theorem dL_law_282 : decode cL_law 282 = .ok (.aload_n 1, 1) := by decide +kernel
theorem dL_law_283 : decode cL_law 283 = .ok (.iload 18, 2) := by decide +kernel
theorem dL_law_285 : decode cL_law 285 = .ok (.bipush 8, 2) := by decide +kernel
theorem dL_law_287 : decode cL_law 287 = .ok (.if_icmp .ge 7, 3) := by decide +kernel
theorem dL_law_290 : decode cL_law 290 = .ok (.iconst 0, 1) := by decide +kernel
theorem dL_law_291 : decode cL_law 291 = .ok (.goto 16, 3) := by decide +kernel
theorem dL_law_294 : decode cL_law 294 = .ok (.iload 18, 2) := by decide +kernel
theorem dL_law_296 : decode cL_law 296 = .ok (.bipush 11, 2) := by decide +kernel
theorem dL_law_298 : decode cL_law 298 = .ok (.if_icmp .ge 7, 3) := by decide +kernel
theorem dL_law_301 : decode cL_law 301 = .ok (.iconst 5, 1) := by decide +kernel
theorem dL_law_302 : decode cL_law 302 = .ok (.goto 5, 3) := by decide +kernel
theorem dL_law_305 : decode cL_law 305 = .ok (.bipush 8, 2) := by decide +kernel
theorem dL_law_307 : decode cL_law 307 = .ok (.iload 19, 2) := by decide +kernel
theorem dL_law_309 : decode cL_law 309 = .ok (.iload 20, 2) := by decide +kernel
theorem dL_law_311 : decode cL_law 311 = .ok (.aload_n 2, 1) := by decide +kernel
theorem dL_law_312 : decode cL_law 312 = .ok (.aload_n 3, 1) := by decide +kernel
theorem dL_law_313 : decode cL_law 313 = .ok (.aload 4, 2) := by decide +kernel
theorem dL_law_315 : decode cL_law 315 = .ok (.aload 5, 2) := by decide +kernel
theorem dL_law_317 : decode cL_law 317 = .ok (.aload 7, 2) := by decide +kernel
theorem dL_law_319 : decode cL_law 319 = .ok (.aload 8, 2) := by decide +kernel
theorem dL_law_321 : decode cL_law 321 = .ok (.aload 13, 2) := by decide +kernel
theorem dL_law_323 : decode cL_law 323 = .ok (.aload 12, 2) := by decide +kernel
theorem dL_law_325 : decode cL_law 325 = .ok (.invokestatic 360, 3) := by decide +kernel
theorem dL_law_328 : decode cL_law 328 = .ok (.istore 21, 2) := by decide +kernel
theorem dL_law_330 : decode cL_law 330 = .ok (.goto 241, 3) := by decide +kernel
theorem dL_law_333 : decode cL_law 333 = .ok (.iload 18, 2) := by decide +kernel
theorem dL_law_335 : decode cL_law 335 = .ok (.bipush 20, 2) := by decide +kernel
theorem dL_law_337 : decode cL_law 337 = .ok (.if_icmp .ge 47, 3) := by decide +kernel
theorem dL_law_340 : decode cL_law 340 = .ok (.aload_n 1, 1) := by decide +kernel
theorem dL_law_341 : decode cL_law 341 = .ok (.iload 18, 2) := by decide +kernel
theorem dL_law_343 : decode cL_law 343 = .ok (.bipush 12, 2) := by decide +kernel
theorem dL_law_345 : decode cL_law 345 = .ok (.isub, 1) := by decide +kernel
theorem dL_law_346 : decode cL_law 346 = .ok (.bipush 6, 2) := by decide +kernel
theorem dL_law_348 : decode cL_law 348 = .ok (.if_icmp .ge 11, 3) := by decide +kernel
theorem dL_law_351 : decode cL_law 351 = .ok (.iload 18, 2) := by decide +kernel
theorem dL_law_353 : decode cL_law 353 = .ok (.bipush 12, 2) := by decide +kernel
theorem dL_law_355 : decode cL_law 355 = .ok (.isub, 1) := by decide +kernel
theorem dL_law_356 : decode cL_law 356 = .ok (.goto 4, 3) := by decide +kernel
theorem dL_law_359 : decode cL_law 359 = .ok (.iconst 5, 1) := by decide +kernel
theorem dL_law_360 : decode cL_law 360 = .ok (.iload 19, 2) := by decide +kernel
theorem dL_law_362 : decode cL_law 362 = .ok (.iload 20, 2) := by decide +kernel
theorem dL_law_364 : decode cL_law 364 = .ok (.aload 4, 2) := by decide +kernel
theorem dL_law_366 : decode cL_law 366 = .ok (.aload 5, 2) := by decide +kernel
theorem dL_law_368 : decode cL_law 368 = .ok (.aload 7, 2) := by decide +kernel
theorem dL_law_370 : decode cL_law 370 = .ok (.aload 8, 2) := by decide +kernel
theorem dL_law_372 : decode cL_law 372 = .ok (.aload 13, 2) := by decide +kernel
theorem dL_law_374 : decode cL_law 374 = .ok (.aload 12, 2) := by decide +kernel
theorem dL_law_376 : decode cL_law 376 = .ok (.invokestatic 364, 3) := by decide +kernel
theorem dL_law_379 : decode cL_law 379 = .ok (.istore 21, 2) := by decide +kernel
theorem dL_law_381 : decode cL_law 381 = .ok (.goto 190, 3) := by decide +kernel
theorem dL_law_384 : decode cL_law 384 = .ok (.iload 18, 2) := by decide +kernel
theorem dL_law_386 : decode cL_law 386 = .ok (.bipush 36, 2) := by decide +kernel
theorem dL_law_388 : decode cL_law 388 = .ok (.if_icmp .ge 63, 3) := by decide +kernel
theorem dL_law_391 : decode cL_law 391 = .ok (.aload_n 1, 1) := by decide +kernel
theorem dL_law_392 : decode cL_law 392 = .ok (.iload 18, 2) := by decide +kernel
theorem dL_law_394 : decode cL_law 394 = .ok (.bipush 20, 2) := by decide +kernel
theorem dL_law_396 : decode cL_law 396 = .ok (.isub, 1) := by decide +kernel
theorem dL_law_397 : decode cL_law 397 = .ok (.bipush 13, 2) := by decide +kernel
theorem dL_law_399 : decode cL_law 399 = .ok (.if_icmp .ge 11, 3) := by decide +kernel
theorem dL_law_402 : decode cL_law 402 = .ok (.iload 18, 2) := by decide +kernel
theorem dL_law_404 : decode cL_law 404 = .ok (.bipush 20, 2) := by decide +kernel
theorem dL_law_406 : decode cL_law 406 = .ok (.isub, 1) := by decide +kernel
theorem dL_law_407 : decode cL_law 407 = .ok (.goto 30, 3) := by decide +kernel
theorem dL_law_410 : decode cL_law 410 = .ok (.iload 18, 2) := by decide +kernel
theorem dL_law_412 : decode cL_law 412 = .ok (.bipush 33, 2) := by decide +kernel
theorem dL_law_414 : decode cL_law 414 = .ok (.isub, 1) := by decide +kernel
theorem dL_law_415 : decode cL_law 415 = .ok (.ifCond .ne 7, 3) := by decide +kernel
theorem dL_law_418 : decode cL_law 418 = .ok (.iconst 1, 1) := by decide +kernel
theorem dL_law_419 : decode cL_law 419 = .ok (.goto 18, 3) := by decide +kernel
theorem dL_law_422 : decode cL_law 422 = .ok (.iload 18, 2) := by decide +kernel
theorem dL_law_424 : decode cL_law 424 = .ok (.bipush 33, 2) := by decide +kernel
theorem dL_law_426 : decode cL_law 426 = .ok (.isub, 1) := by decide +kernel
theorem dL_law_427 : decode cL_law 427 = .ok (.iconst 1, 1) := by decide +kernel
theorem dL_law_428 : decode cL_law 428 = .ok (.if_icmp .ne 7, 3) := by decide +kernel
theorem dL_law_431 : decode cL_law 431 = .ok (.iconst 3, 1) := by decide +kernel
theorem dL_law_432 : decode cL_law 432 = .ok (.goto 5, 3) := by decide +kernel
theorem dL_law_435 : decode cL_law 435 = .ok (.bipush 9, 2) := by decide +kernel
theorem dL_law_437 : decode cL_law 437 = .ok (.iload 19, 2) := by decide +kernel
theorem dL_law_439 : decode cL_law 439 = .ok (.iload 20, 2) := by decide +kernel
theorem dL_law_441 : decode cL_law 441 = .ok (.aload 6, 2) := by decide +kernel
theorem dL_law_443 : decode cL_law 443 = .ok (.invokestatic 368, 3) := by decide +kernel
theorem dL_law_446 : decode cL_law 446 = .ok (.istore 21, 2) := by decide +kernel
theorem dL_law_448 : decode cL_law 448 = .ok (.goto 123, 3) := by decide +kernel
theorem dL_law_451 : decode cL_law 451 = .ok (.iload 18, 2) := by decide +kernel
theorem dL_law_453 : decode cL_law 453 = .ok (.bipush 54, 2) := by decide +kernel
theorem dL_law_455 : decode cL_law 455 = .ok (.if_icmp .ge 40, 3) := by decide +kernel
theorem dL_law_458 : decode cL_law 458 = .ok (.aload_n 1, 1) := by decide +kernel
theorem dL_law_459 : decode cL_law 459 = .ok (.iload 19, 2) := by decide +kernel
theorem dL_law_461 : decode cL_law 461 = .ok (.iload 20, 2) := by decide +kernel
theorem dL_law_463 : decode cL_law 463 = .ok (.aload_n 2, 1) := by decide +kernel
theorem dL_law_464 : decode cL_law 464 = .ok (.aload_n 3, 1) := by decide +kernel
theorem dL_law_465 : decode cL_law 465 = .ok (.aload 4, 2) := by decide +kernel
theorem dL_law_467 : decode cL_law 467 = .ok (.aload 5, 2) := by decide +kernel
theorem dL_law_469 : decode cL_law 469 = .ok (.aload 6, 2) := by decide +kernel
theorem dL_law_471 : decode cL_law 471 = .ok (.aload 7, 2) := by decide +kernel
theorem dL_law_473 : decode cL_law 473 = .ok (.aload 8, 2) := by decide +kernel
theorem dL_law_475 : decode cL_law 475 = .ok (.aload 13, 2) := by decide +kernel
theorem dL_law_477 : decode cL_law 477 = .ok (.aload 9, 2) := by decide +kernel
theorem dL_law_479 : decode cL_law 479 = .ok (.aload 10, 2) := by decide +kernel
theorem dL_law_481 : decode cL_law 481 = .ok (.aload 11, 2) := by decide +kernel
theorem dL_law_483 : decode cL_law 483 = .ok (.aload 12, 2) := by decide +kernel
theorem dL_law_485 : decode cL_law 485 = .ok (.aload 14, 2) := by decide +kernel
theorem dL_law_487 : decode cL_law 487 = .ok (.invokestatic 372, 3) := by decide +kernel
theorem dL_law_490 : decode cL_law 490 = .ok (.istore 21, 2) := by decide +kernel
theorem dL_law_492 : decode cL_law 492 = .ok (.goto 79, 3) := by decide +kernel
theorem dL_law_495 : decode cL_law 495 = .ok (.iload 18, 2) := by decide +kernel
theorem dL_law_497 : decode cL_law 497 = .ok (.bipush 59, 2) := by decide +kernel
theorem dL_law_499 : decode cL_law 499 = .ok (.if_icmp .ge 22, 3) := by decide +kernel
theorem dL_law_502 : decode cL_law 502 = .ok (.aload_n 1, 1) := by decide +kernel
theorem dL_law_503 : decode cL_law 503 = .ok (.iload 19, 2) := by decide +kernel
theorem dL_law_505 : decode cL_law 505 = .ok (.iload 20, 2) := by decide +kernel
theorem dL_law_507 : decode cL_law 507 = .ok (.aload_n 3, 1) := by decide +kernel
theorem dL_law_508 : decode cL_law 508 = .ok (.aload_n 2, 1) := by decide +kernel
theorem dL_law_509 : decode cL_law 509 = .ok (.aload 15, 2) := by decide +kernel
theorem dL_law_511 : decode cL_law 511 = .ok (.aload 16, 2) := by decide +kernel
theorem dL_law_513 : decode cL_law 513 = .ok (.invokestatic 376, 3) := by decide +kernel
theorem dL_law_516 : decode cL_law 516 = .ok (.istore 21, 2) := by decide +kernel
theorem dL_law_518 : decode cL_law 518 = .ok (.goto 53, 3) := by decide +kernel
theorem dL_law_521 : decode cL_law 521 = .ok (.aload_n 3, 1) := by decide +kernel
theorem dL_law_522 : decode cL_law 522 = .ok (.invokestatic 380, 3) := by decide +kernel
theorem dL_law_525 : decode cL_law 525 = .ok (.ifCond .eq 28, 3) := by decide +kernel
theorem dL_law_528 : decode cL_law 528 = .ok (.aload_n 1, 1) := by decide +kernel
theorem dL_law_529 : decode cL_law 529 = .ok (.aload 15, 2) := by decide +kernel
theorem dL_law_531 : decode cL_law 531 = .ok (.aload 16, 2) := by decide +kernel
theorem dL_law_533 : decode cL_law 533 = .ok (.aload_n 2, 1) := by decide +kernel
theorem dL_law_534 : decode cL_law 534 = .ok (.aload_n 3, 1) := by decide +kernel
theorem dL_law_535 : decode cL_law 535 = .ok (.aload 4, 2) := by decide +kernel
theorem dL_law_537 : decode cL_law 537 = .ok (.aload 5, 2) := by decide +kernel
theorem dL_law_539 : decode cL_law 539 = .ok (.aload 7, 2) := by decide +kernel
theorem dL_law_541 : decode cL_law 541 = .ok (.aload 8, 2) := by decide +kernel
theorem dL_law_543 : decode cL_law 543 = .ok (.aload 13, 2) := by decide +kernel
theorem dL_law_545 : decode cL_law 545 = .ok (.aload 12, 2) := by decide +kernel
theorem dL_law_547 : decode cL_law 547 = .ok (.invokestatic 384, 3) := by decide +kernel
theorem dL_law_550 : decode cL_law 550 = .ok (.goto 19, 3) := by decide +kernel
theorem dL_law_553 : decode cL_law 553 = .ok (.aload_n 1, 1) := by decide +kernel
theorem dL_law_554 : decode cL_law 554 = .ok (.iconst 0, 1) := by decide +kernel
theorem dL_law_555 : decode cL_law 555 = .ok (.invokestatic 139, 3) := by decide +kernel
theorem dL_law_558 : decode cL_law 558 = .ok (.aload_n 3, 1) := by decide +kernel
theorem dL_law_559 : decode cL_law 559 = .ok (.iconst 0, 1) := by decide +kernel
theorem dL_law_560 : decode cL_law 560 = .ok (.iaload, 1) := by decide +kernel
theorem dL_law_561 : decode cL_law 561 = .ok (.if_icmp .ne 7, 3) := by decide +kernel
theorem dL_law_564 : decode cL_law 564 = .ok (.iconst 1, 1) := by decide +kernel
theorem dL_law_565 : decode cL_law 565 = .ok (.goto 4, 3) := by decide +kernel
theorem dL_law_568 : decode cL_law 568 = .ok (.iconst 0, 1) := by decide +kernel
theorem dL_law_569 : decode cL_law 569 = .ok (.istore 21, 2) := by decide +kernel
theorem dL_law_571 : decode cL_law 571 = .ok (.iload 21, 2) := by decide +kernel
theorem dL_law_573 : decode cL_law 573 = .ok (.ifCond .eq 42, 3) := by decide +kernel
theorem dL_law_576 : decode cL_law 576 = .ok (.aload_n 1, 1) := by decide +kernel
theorem dL_law_577 : decode cL_law 577 = .ok (.iload 19, 2) := by decide +kernel
theorem dL_law_579 : decode cL_law 579 = .ok (.iload 20, 2) := by decide +kernel
theorem dL_law_581 : decode cL_law 581 = .ok (.ixor, 1) := by decide +kernel
theorem dL_law_582 : decode cL_law 582 = .ok (.aload_n 2, 1) := by decide +kernel
theorem dL_law_583 : decode cL_law 583 = .ok (.aload_n 3, 1) := by decide +kernel
theorem dL_law_584 : decode cL_law 584 = .ok (.aload 13, 2) := by decide +kernel
theorem dL_law_586 : decode cL_law 586 = .ok (.aload 12, 2) := by decide +kernel
theorem dL_law_588 : decode cL_law 588 = .ok (.aload 14, 2) := by decide +kernel
theorem dL_law_590 : decode cL_law 590 = .ok (.invokestatic 388, 3) := by decide +kernel
theorem dL_law_593 : decode cL_law 593 = .ok (.ifCond .eq 22, 3) := by decide +kernel
theorem dL_law_596 : decode cL_law 596 = .ok (.iload 17, 2) := by decide +kernel
theorem dL_law_598 : decode cL_law 598 = .ok (.iconst 4, 1) := by decide +kernel
theorem dL_law_599 : decode cL_law 599 = .ok (.irem, 1) := by decide +kernel
theorem dL_law_600 : decode cL_law 600 = .ok (.iconst 3, 1) := by decide +kernel
theorem dL_law_601 : decode cL_law 601 = .ok (.if_icmp .ne 16, 3) := by decide +kernel
theorem dL_law_604 : decode cL_law 604 = .ok (.aload_n 1, 1) := by decide +kernel
theorem dL_law_605 : decode cL_law 605 = .ok (.aload_n 2, 1) := by decide +kernel
theorem dL_law_606 : decode cL_law 606 = .ok (.aload_n 3, 1) := by decide +kernel
theorem dL_law_607 : decode cL_law 607 = .ok (.aload 6, 2) := by decide +kernel
theorem dL_law_609 : decode cL_law 609 = .ok (.invokestatic 392, 3) := by decide +kernel
theorem dL_law_612 : decode cL_law 612 = .ok (.ifCond .ne 5, 3) := by decide +kernel
theorem dL_law_615 : decode cL_law 615 = .ok (.iconst 0, 1) := by decide +kernel
theorem dL_law_616 : decode cL_law 616 = .ok (.ireturn, 1) := by decide +kernel
theorem dL_law_617 : decode cL_law 617 = .ok (.iinc 17 1, 3) := by decide +kernel
theorem dL_law_620 : decode cL_law 620 = .ok (.goto (-425), 3) := by decide +kernel
theorem dL_law_623 : decode cL_law 623 = .ok (.iconst 1, 1) := by decide +kernel
theorem dL_law_624 : decode cL_law 624 = .ok (.ireturn, 1) := by decide +kernel
theorem dL_roomFor_0 : decode cL_roomFor 0 = .ok (.iconst 0, 1) := by decide +kernel
theorem dL_roomFor_1 : decode cL_roomFor 1 = .ok (.istore_n 1, 1) := by decide +kernel
theorem dL_roomFor_2 : decode cL_roomFor 2 = .ok (.iload_n 1, 1) := by decide +kernel
theorem dL_roomFor_3 : decode cL_roomFor 3 = .ok (.bipush 6, 2) := by decide +kernel
theorem dL_roomFor_5 : decode cL_roomFor 5 = .ok (.if_icmp .ge 19, 3) := by decide +kernel
theorem dL_roomFor_8 : decode cL_roomFor 8 = .ok (.aload_n 0, 1) := by decide +kernel
theorem dL_roomFor_9 : decode cL_roomFor 9 = .ok (.iload_n 1, 1) := by decide +kernel
theorem dL_roomFor_10 : decode cL_roomFor 10 = .ok (.iaload, 1) := by decide +kernel
theorem dL_roomFor_11 : decode cL_roomFor 11 = .ok (.bipush 6, 2) := by decide +kernel
theorem dL_roomFor_13 : decode cL_roomFor 13 = .ok (.if_icmp .le 5, 3) := by decide +kernel
theorem dL_roomFor_16 : decode cL_roomFor 16 = .ok (.iconst 0, 1) := by decide +kernel
theorem dL_roomFor_17 : decode cL_roomFor 17 = .ok (.ireturn, 1) := by decide +kernel
theorem dL_roomFor_18 : decode cL_roomFor 18 = .ok (.iinc 1 1, 3) := by decide +kernel
theorem dL_roomFor_21 : decode cL_roomFor 21 = .ok (.goto (-19), 3) := by decide +kernel
theorem dL_roomFor_24 : decode cL_roomFor 24 = .ok (.iconst 1, 1) := by decide +kernel
theorem dL_roomFor_25 : decode cL_roomFor 25 = .ok (.ireturn, 1) := by decide +kernel
