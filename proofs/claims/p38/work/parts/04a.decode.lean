theorem dX0_init_0 : decode cX0_init 0 = .ok (.aload_n 0, 1) := by decide +kernel
theorem dX0_init_1 : decode cX0_init 1 = .ok (.invokespecial 3, 3) := by decide +kernel
theorem dX0_init_4 : decode cX0_init 4 = .ok (.aload_n 0, 1) := by decide +kernel
theorem dX0_init_5 : decode cX0_init 5 = .ok (.iconst 3, 1) := by decide +kernel
theorem dX0_init_6 : decode cX0_init 6 = .ok (.anewarray 9, 3) := by decide +kernel
theorem dX0_init_9 : decode cX0_init 9 = .ok (.putfield 11, 3) := by decide +kernel
theorem dX0_init_12 : decode cX0_init 12 = .ok (.aload_n 0, 1) := by decide +kernel
theorem dX0_init_13 : decode cX0_init 13 = .ok (.bipush 120, 2) := by decide +kernel
theorem dX0_init_15 : decode cX0_init 15 = .ok (.newarray .int, 2) := by decide +kernel
theorem dX0_init_17 : decode cX0_init 17 = .ok (.putfield 17, 3) := by decide +kernel
theorem dX0_init_20 : decode cX0_init 20 = .ok (.aload_n 0, 1) := by decide +kernel
theorem dX0_init_21 : decode cX0_init 21 = .ok (.iconst 3, 1) := by decide +kernel
theorem dX0_init_22 : decode cX0_init 22 = .ok (.newarray .int, 2) := by decide +kernel
theorem dX0_init_24 : decode cX0_init 24 = .ok (.putfield 21, 3) := by decide +kernel
theorem dX0_init_27 : decode cX0_init 27 = .ok (.aload_n 0, 1) := by decide +kernel
theorem dX0_init_28 : decode cX0_init 28 = .ok (.iconst 3, 1) := by decide +kernel
theorem dX0_init_29 : decode cX0_init 29 = .ok (.newarray .int, 2) := by decide +kernel
theorem dX0_init_31 : decode cX0_init 31 = .ok (.putfield 24, 3) := by decide +kernel
theorem dX0_init_34 : decode cX0_init 34 = .ok (.aload_n 0, 1) := by decide +kernel
theorem dX0_init_35 : decode cX0_init 35 = .ok (.iconst 3, 1) := by decide +kernel
theorem dX0_init_36 : decode cX0_init 36 = .ok (.newarray .int, 2) := by decide +kernel
theorem dX0_init_38 : decode cX0_init 38 = .ok (.putfield 27, 3) := by decide +kernel
theorem dX0_init_41 : decode cX0_init 41 = .ok (.aload_n 0, 1) := by decide +kernel
theorem dX0_init_42 : decode cX0_init 42 = .ok (.iconst (-1), 1) := by decide +kernel
theorem dX0_init_43 : decode cX0_init 43 = .ok (.putfield 30, 3) := by decide +kernel
theorem dX0_init_46 : decode cX0_init 46 = .ok (.iconst 0, 1) := by decide +kernel
theorem dX0_init_47 : decode cX0_init 47 = .ok (.istore_n 1, 1) := by decide +kernel
theorem dX0_init_48 : decode cX0_init 48 = .ok (.iload_n 1, 1) := by decide +kernel
theorem dX0_init_49 : decode cX0_init 49 = .ok (.iconst 3, 1) := by decide +kernel
theorem dX0_init_50 : decode cX0_init 50 = .ok (.if_icmp .ge 22, 3) := by decide +kernel
theorem dX0_init_53 : decode cX0_init 53 = .ok (.aload_n 0, 1) := by decide +kernel
theorem dX0_init_54 : decode cX0_init 54 = .ok (.getfield 11, 3) := by decide +kernel
theorem dX0_init_57 : decode cX0_init 57 = .ok (.iload_n 1, 1) := by decide +kernel
theorem dX0_init_58 : decode cX0_init 58 = .ok (.new 9, 3) := by decide +kernel
theorem dX0_init_61 : decode cX0_init 61 = .ok (.dup, 1) := by decide +kernel
theorem dX0_init_62 : decode cX0_init 62 = .ok (.invokespecial 34, 3) := by decide +kernel
theorem dX0_init_65 : decode cX0_init 65 = .ok (.aastore, 1) := by decide +kernel
theorem dX0_init_66 : decode cX0_init 66 = .ok (.iinc 1 1, 3) := by decide +kernel
theorem dX0_init_69 : decode cX0_init 69 = .ok (.goto (-21), 3) := by decide +kernel
theorem dX0_init_72 : decode cX0_init 72 = .ok (.return_, 1) := by decide +kernel
theorem dX0_begin_0 : decode cX0_begin 0 = .ok (.iconst 0, 1) := by decide +kernel
theorem dX0_begin_1 : decode cX0_begin 1 = .ok (.istore_n 1, 1) := by decide +kernel
theorem dX0_begin_2 : decode cX0_begin 2 = .ok (.iload_n 1, 1) := by decide +kernel
theorem dX0_begin_3 : decode cX0_begin 3 = .ok (.iconst 3, 1) := by decide +kernel
theorem dX0_begin_4 : decode cX0_begin 4 = .ok (.if_icmp .ge 19, 3) := by decide +kernel
theorem dX0_begin_7 : decode cX0_begin 7 = .ok (.aload_n 0, 1) := by decide +kernel
theorem dX0_begin_8 : decode cX0_begin 8 = .ok (.getfield 11, 3) := by decide +kernel
theorem dX0_begin_11 : decode cX0_begin 11 = .ok (.iload_n 1, 1) := by decide +kernel
theorem dX0_begin_12 : decode cX0_begin 12 = .ok (.aaload, 1) := by decide +kernel
theorem dX0_begin_13 : decode cX0_begin 13 = .ok (.iconst 0, 1) := by decide +kernel
theorem dX0_begin_14 : decode cX0_begin 14 = .ok (.putfield 35, 3) := by decide +kernel
theorem dX0_begin_17 : decode cX0_begin 17 = .ok (.iinc 1 1, 3) := by decide +kernel
theorem dX0_begin_20 : decode cX0_begin 20 = .ok (.goto (-18), 3) := by decide +kernel
theorem dX0_begin_23 : decode cX0_begin 23 = .ok (.aload_n 0, 1) := by decide +kernel
theorem dX0_begin_24 : decode cX0_begin 24 = .ok (.iconst 0, 1) := by decide +kernel
theorem dX0_begin_25 : decode cX0_begin 25 = .ok (.putfield 38, 3) := by decide +kernel
theorem dX0_begin_28 : decode cX0_begin 28 = .ok (.aload_n 0, 1) := by decide +kernel
theorem dX0_begin_29 : decode cX0_begin 29 = .ok (.iconst 0, 1) := by decide +kernel
theorem dX0_begin_30 : decode cX0_begin 30 = .ok (.putfield 41, 3) := by decide +kernel
theorem dX0_begin_33 : decode cX0_begin 33 = .ok (.aload_n 0, 1) := by decide +kernel
theorem dX0_begin_34 : decode cX0_begin 34 = .ok (.iconst 0, 1) := by decide +kernel
theorem dX0_begin_35 : decode cX0_begin 35 = .ok (.putfield 44, 3) := by decide +kernel
theorem dX0_begin_38 : decode cX0_begin 38 = .ok (.aload_n 0, 1) := by decide +kernel
theorem dX0_begin_39 : decode cX0_begin 39 = .ok (.iconst 0, 1) := by decide +kernel
theorem dX0_begin_40 : decode cX0_begin 40 = .ok (.putfield 47, 3) := by decide +kernel
theorem dX0_begin_43 : decode cX0_begin 43 = .ok (.aload_n 0, 1) := by decide +kernel
theorem dX0_begin_44 : decode cX0_begin 44 = .ok (.iconst 0, 1) := by decide +kernel
theorem dX0_begin_45 : decode cX0_begin 45 = .ok (.putfield 50, 3) := by decide +kernel
theorem dX0_begin_48 : decode cX0_begin 48 = .ok (.return_, 1) := by decide +kernel
theorem dX0_hasCell_0 : decode cX0_hasCell 0 = .ok (.iload_n 1, 1) := by decide +kernel
theorem dX0_hasCell_1 : decode cX0_hasCell 1 = .ok (.ifCond .lt 27, 3) := by decide +kernel
theorem dX0_hasCell_4 : decode cX0_hasCell 4 = .ok (.iload_n 1, 1) := by decide +kernel
theorem dX0_hasCell_5 : decode cX0_hasCell 5 = .ok (.aload_n 0, 1) := by decide +kernel
theorem dX0_hasCell_6 : decode cX0_hasCell 6 = .ok (.getfield 53, 3) := by decide +kernel
theorem dX0_hasCell_9 : decode cX0_hasCell 9 = .ok (.if_icmp .ge 19, 3) := by decide +kernel
theorem dX0_hasCell_12 : decode cX0_hasCell 12 = .ok (.iload_n 2, 1) := by decide +kernel
theorem dX0_hasCell_13 : decode cX0_hasCell 13 = .ok (.ifCond .lt 15, 3) := by decide +kernel
theorem dX0_hasCell_16 : decode cX0_hasCell 16 = .ok (.iload_n 2, 1) := by decide +kernel
theorem dX0_hasCell_17 : decode cX0_hasCell 17 = .ok (.aload_n 0, 1) := by decide +kernel
theorem dX0_hasCell_18 : decode cX0_hasCell 18 = .ok (.getfield 54, 3) := by decide +kernel
theorem dX0_hasCell_21 : decode cX0_hasCell 21 = .ok (.if_icmp .ge 7, 3) := by decide +kernel
theorem dX0_hasCell_24 : decode cX0_hasCell 24 = .ok (.iconst 1, 1) := by decide +kernel
theorem dX0_hasCell_25 : decode cX0_hasCell 25 = .ok (.goto 4, 3) := by decide +kernel
theorem dX0_hasCell_28 : decode cX0_hasCell 28 = .ok (.iconst 0, 1) := by decide +kernel
theorem dX0_hasCell_29 : decode cX0_hasCell 29 = .ok (.ireturn, 1) := by decide +kernel
theorem dX0_answerAt_0 : decode cX0_answerAt 0 = .ok (.aload_n 0, 1) := by decide +kernel
theorem dX0_answerAt_1 : decode cX0_answerAt 1 = .ok (.getfield 17, 3) := by decide +kernel
theorem dX0_answerAt_4 : decode cX0_answerAt 4 = .ok (.iload_n 1, 1) := by decide +kernel
theorem dX0_answerAt_5 : decode cX0_answerAt 5 = .ok (.iconst 3, 1) := by decide +kernel
theorem dX0_answerAt_6 : decode cX0_answerAt 6 = .ok (.imul, 1) := by decide +kernel
theorem dX0_answerAt_7 : decode cX0_answerAt 7 = .ok (.iload_n 2, 1) := by decide +kernel
theorem dX0_answerAt_8 : decode cX0_answerAt 8 = .ok (.iadd, 1) := by decide +kernel
theorem dX0_answerAt_9 : decode cX0_answerAt 9 = .ok (.iaload, 1) := by decide +kernel
theorem dX0_answerAt_10 : decode cX0_answerAt 10 = .ok (.ireturn, 1) := by decide +kernel
theorem dX0_keepWhatHolds_0 : decode cX0_keepWhatHolds 0 = .ok (.aload_n 0, 1) := by decide +kernel
theorem dX0_keepWhatHolds_1 : decode cX0_keepWhatHolds 1 = .ok (.getfield 11, 3) := by decide +kernel
theorem dX0_keepWhatHolds_4 : decode cX0_keepWhatHolds 4 = .ok (.iload_n 2, 1) := by decide +kernel
theorem dX0_keepWhatHolds_5 : decode cX0_keepWhatHolds 5 = .ok (.aaload, 1) := by decide +kernel
theorem dX0_keepWhatHolds_6 : decode cX0_keepWhatHolds 6 = .ok (.getfield 35, 3) := by decide +kernel
theorem dX0_keepWhatHolds_9 : decode cX0_keepWhatHolds 9 = .ok (.iconst 1, 1) := by decide +kernel
theorem dX0_keepWhatHolds_10 : decode cX0_keepWhatHolds 10 = .ok (.isub, 1) := by decide +kernel
theorem dX0_keepWhatHolds_11 : decode cX0_keepWhatHolds 11 = .ok (.istore_n 3, 1) := by decide +kernel
theorem dX0_keepWhatHolds_12 : decode cX0_keepWhatHolds 12 = .ok (.iload_n 3, 1) := by decide +kernel
theorem dX0_keepWhatHolds_13 : decode cX0_keepWhatHolds 13 = .ok (.ifCond .lt 34, 3) := by decide +kernel
theorem dX0_keepWhatHolds_16 : decode cX0_keepWhatHolds 16 = .ok (.aload_n 1, 1) := by decide +kernel
theorem dX0_keepWhatHolds_17 : decode cX0_keepWhatHolds 17 = .ok (.iload_n 2, 1) := by decide +kernel
theorem dX0_keepWhatHolds_18 : decode cX0_keepWhatHolds 18 = .ok (.aload_n 0, 1) := by decide +kernel
theorem dX0_keepWhatHolds_19 : decode cX0_keepWhatHolds 19 = .ok (.getfield 11, 3) := by decide +kernel
theorem dX0_keepWhatHolds_22 : decode cX0_keepWhatHolds 22 = .ok (.iload_n 2, 1) := by decide +kernel
theorem dX0_keepWhatHolds_23 : decode cX0_keepWhatHolds 23 = .ok (.aaload, 1) := by decide +kernel
theorem dX0_keepWhatHolds_24 : decode cX0_keepWhatHolds 24 = .ok (.iload_n 3, 1) := by decide +kernel
theorem dX0_keepWhatHolds_25 : decode cX0_keepWhatHolds 25 = .ok (.invokevirtual 57, 3) := by decide +kernel
theorem dX0_keepWhatHolds_28 : decode cX0_keepWhatHolds 28 = .ok (.ifCond .ne 13, 3) := by decide +kernel
theorem dX0_keepWhatHolds_31 : decode cX0_keepWhatHolds 31 = .ok (.aload_n 0, 1) := by decide +kernel
theorem dX0_keepWhatHolds_32 : decode cX0_keepWhatHolds 32 = .ok (.getfield 11, 3) := by decide +kernel
theorem dX0_keepWhatHolds_35 : decode cX0_keepWhatHolds 35 = .ok (.iload_n 2, 1) := by decide +kernel
theorem dX0_keepWhatHolds_36 : decode cX0_keepWhatHolds 36 = .ok (.aaload, 1) := by decide +kernel
theorem dX0_keepWhatHolds_37 : decode cX0_keepWhatHolds 37 = .ok (.iload_n 3, 1) := by decide +kernel
theorem dX0_keepWhatHolds_38 : decode cX0_keepWhatHolds 38 = .ok (.invokevirtual 63, 3) := by decide +kernel
theorem dX0_keepWhatHolds_41 : decode cX0_keepWhatHolds 41 = .ok (.iinc 3 (-1), 3) := by decide +kernel
theorem dX0_keepWhatHolds_44 : decode cX0_keepWhatHolds 44 = .ok (.goto (-32), 3) := by decide +kernel
theorem dX0_keepWhatHolds_47 : decode cX0_keepWhatHolds 47 = .ok (.return_, 1) := by decide +kernel
theorem dX0_make_0 : decode cX0_make 0 = .ok (.aload_n 0, 1) := by decide +kernel
theorem dX0_make_1 : decode cX0_make 1 = .ok (.iconst 0, 1) := by decide +kernel
theorem dX0_make_2 : decode cX0_make 2 = .ok (.putfield 53, 3) := by decide +kernel
theorem dX0_make_5 : decode cX0_make 5 = .ok (.aload_n 0, 1) := by decide +kernel
theorem dX0_make_6 : decode cX0_make 6 = .ok (.aload_n 1, 1) := by decide +kernel
theorem dX0_make_7 : decode cX0_make 7 = .ok (.getfield 67, 3) := by decide +kernel
theorem dX0_make_10 : decode cX0_make 10 = .ok (.ifCond .eq 7, 3) := by decide +kernel
theorem dX0_make_13 : decode cX0_make 13 = .ok (.iconst 3, 1) := by decide +kernel
theorem dX0_make_14 : decode cX0_make 14 = .ok (.goto 7, 3) := by decide +kernel
theorem dX0_make_17 : decode cX0_make 17 = .ok (.aload_n 1, 1) := by decide +kernel
theorem dX0_make_18 : decode cX0_make 18 = .ok (.getfield 71, 3) := by decide +kernel
theorem dX0_make_21 : decode cX0_make 21 = .ok (.putfield 54, 3) := by decide +kernel
theorem dX0_make_24 : decode cX0_make 24 = .ok (.iconst 0, 1) := by decide +kernel
theorem dX0_make_25 : decode cX0_make 25 = .ok (.istore_n 2, 1) := by decide +kernel
theorem dX0_make_26 : decode cX0_make 26 = .ok (.iload_n 2, 1) := by decide +kernel
theorem dX0_make_27 : decode cX0_make 27 = .ok (.aload_n 0, 1) := by decide +kernel
theorem dX0_make_28 : decode cX0_make 28 = .ok (.aload_n 1, 1) := by decide +kernel
theorem dX0_make_29 : decode cX0_make 29 = .ok (.iconst 0, 1) := by decide +kernel
theorem dX0_make_30 : decode cX0_make 30 = .ok (.invokevirtual 74, 3) := by decide +kernel
theorem dX0_make_33 : decode cX0_make 33 = .ok (.if_icmp .ge 95, 3) := by decide +kernel
theorem dX0_make_36 : decode cX0_make 36 = .ok (.aload_n 0, 1) := by decide +kernel
theorem dX0_make_37 : decode cX0_make 37 = .ok (.getfield 21, 3) := by decide +kernel
theorem dX0_make_40 : decode cX0_make 40 = .ok (.iconst 0, 1) := by decide +kernel
theorem dX0_make_41 : decode cX0_make 41 = .ok (.iload_n 2, 1) := by decide +kernel
theorem dX0_make_42 : decode cX0_make 42 = .ok (.iastore, 1) := by decide +kernel
theorem dX0_make_43 : decode cX0_make 43 = .ok (.iconst 0, 1) := by decide +kernel
theorem dX0_make_44 : decode cX0_make 44 = .ok (.istore_n 3, 1) := by decide +kernel
theorem dX0_make_45 : decode cX0_make 45 = .ok (.iload_n 3, 1) := by decide +kernel
theorem dX0_make_46 : decode cX0_make 46 = .ok (.aload_n 0, 1) := by decide +kernel
theorem dX0_make_47 : decode cX0_make 47 = .ok (.aload_n 1, 1) := by decide +kernel
theorem dX0_make_48 : decode cX0_make 48 = .ok (.iconst 1, 1) := by decide +kernel
theorem dX0_make_49 : decode cX0_make 49 = .ok (.invokevirtual 74, 3) := by decide +kernel
theorem dX0_make_52 : decode cX0_make 52 = .ok (.if_icmp .ge 70, 3) := by decide +kernel
theorem dX0_make_55 : decode cX0_make 55 = .ok (.aload_n 0, 1) := by decide +kernel
theorem dX0_make_56 : decode cX0_make 56 = .ok (.getfield 21, 3) := by decide +kernel
theorem dX0_make_59 : decode cX0_make 59 = .ok (.iconst 1, 1) := by decide +kernel
theorem dX0_make_60 : decode cX0_make 60 = .ok (.iload_n 3, 1) := by decide +kernel
theorem dX0_make_61 : decode cX0_make 61 = .ok (.iastore, 1) := by decide +kernel
theorem dX0_make_62 : decode cX0_make 62 = .ok (.aload_n 0, 1) := by decide +kernel
theorem dX0_make_63 : decode cX0_make 63 = .ok (.aload_n 1, 1) := by decide +kernel
theorem dX0_make_64 : decode cX0_make 64 = .ok (.iconst 1, 1) := by decide +kernel
theorem dX0_make_65 : decode cX0_make 65 = .ok (.invokevirtual 78, 3) := by decide +kernel
theorem dX0_make_68 : decode cX0_make 68 = .ok (.ifCond .ne 6, 3) := by decide +kernel
theorem dX0_make_71 : decode cX0_make 71 = .ok (.goto 45, 3) := by decide +kernel
theorem dX0_make_74 : decode cX0_make 74 = .ok (.iconst 0, 1) := by decide +kernel
theorem dX0_make_75 : decode cX0_make 75 = .ok (.istore 4, 2) := by decide +kernel
theorem dX0_make_77 : decode cX0_make 77 = .ok (.iload 4, 2) := by decide +kernel
theorem dX0_make_79 : decode cX0_make 79 = .ok (.aload_n 0, 1) := by decide +kernel
theorem dX0_make_80 : decode cX0_make 80 = .ok (.aload_n 1, 1) := by decide +kernel
theorem dX0_make_81 : decode cX0_make 81 = .ok (.iconst 2, 1) := by decide +kernel
theorem dX0_make_82 : decode cX0_make 82 = .ok (.invokevirtual 74, 3) := by decide +kernel
theorem dX0_make_85 : decode cX0_make 85 = .ok (.if_icmp .ge 31, 3) := by decide +kernel
theorem dX0_make_88 : decode cX0_make 88 = .ok (.aload_n 0, 1) := by decide +kernel
theorem dX0_make_89 : decode cX0_make 89 = .ok (.getfield 21, 3) := by decide +kernel
theorem dX0_make_92 : decode cX0_make 92 = .ok (.iconst 2, 1) := by decide +kernel
theorem dX0_make_93 : decode cX0_make 93 = .ok (.iload 4, 2) := by decide +kernel
theorem dX0_make_95 : decode cX0_make 95 = .ok (.iastore, 1) := by decide +kernel
theorem dX0_make_96 : decode cX0_make 96 = .ok (.aload_n 0, 1) := by decide +kernel
theorem dX0_make_97 : decode cX0_make 97 = .ok (.aload_n 1, 1) := by decide +kernel
theorem dX0_make_98 : decode cX0_make 98 = .ok (.iconst 2, 1) := by decide +kernel
theorem dX0_make_99 : decode cX0_make 99 = .ok (.invokevirtual 78, 3) := by decide +kernel
theorem dX0_make_102 : decode cX0_make 102 = .ok (.ifCond .eq 8, 3) := by decide +kernel
theorem dX0_make_105 : decode cX0_make 105 = .ok (.aload_n 0, 1) := by decide +kernel
theorem dX0_make_106 : decode cX0_make 106 = .ok (.aload_n 1, 1) := by decide +kernel
theorem dX0_make_107 : decode cX0_make 107 = .ok (.invokevirtual 82, 3) := by decide +kernel
theorem dX0_make_110 : decode cX0_make 110 = .ok (.iinc 4 1, 3) := by decide +kernel
theorem dX0_make_113 : decode cX0_make 113 = .ok (.goto (-36), 3) := by decide +kernel
theorem dX0_make_116 : decode cX0_make 116 = .ok (.iinc 3 1, 3) := by decide +kernel
theorem dX0_make_119 : decode cX0_make 119 = .ok (.goto (-74), 3) := by decide +kernel
theorem dX0_make_122 : decode cX0_make 122 = .ok (.iinc 2 1, 3) := by decide +kernel
theorem dX0_make_125 : decode cX0_make 125 = .ok (.goto (-99), 3) := by decide +kernel
theorem dX0_make_128 : decode cX0_make 128 = .ok (.aload_n 0, 1) := by decide +kernel
theorem dX0_make_129 : decode cX0_make 129 = .ok (.aload_n 0, 1) := by decide +kernel
theorem dX0_make_130 : decode cX0_make 130 = .ok (.getfield 53, 3) := by decide +kernel
theorem dX0_make_133 : decode cX0_make 133 = .ok (.aload_n 1, 1) := by decide +kernel
theorem dX0_make_134 : decode cX0_make 134 = .ok (.getfield 86, 3) := by decide +kernel
theorem dX0_make_137 : decode cX0_make 137 = .ok (.invokestatic 89, 3) := by decide +kernel
theorem dX0_make_140 : decode cX0_make 140 = .ok (.putfield 53, 3) := by decide +kernel
theorem dX0_make_143 : decode cX0_make 143 = .ok (.return_, 1) := by decide +kernel
theorem dX0_choices_0 : decode cX0_choices 0 = .ok (.iload_n 2, 1) := by decide +kernel
theorem dX0_choices_1 : decode cX0_choices 1 = .ok (.aload_n 1, 1) := by decide +kernel
theorem dX0_choices_2 : decode cX0_choices 2 = .ok (.getfield 95, 3) := by decide +kernel
theorem dX0_choices_5 : decode cX0_choices 5 = .ok (.if_icmp .ge 15, 3) := by decide +kernel
theorem dX0_choices_8 : decode cX0_choices 8 = .ok (.aload_n 0, 1) := by decide +kernel
theorem dX0_choices_9 : decode cX0_choices 9 = .ok (.getfield 11, 3) := by decide +kernel
theorem dX0_choices_12 : decode cX0_choices 12 = .ok (.iload_n 2, 1) := by decide +kernel
theorem dX0_choices_13 : decode cX0_choices 13 = .ok (.aaload, 1) := by decide +kernel
theorem dX0_choices_14 : decode cX0_choices 14 = .ok (.getfield 35, 3) := by decide +kernel
theorem dX0_choices_17 : decode cX0_choices 17 = .ok (.goto 4, 3) := by decide +kernel
theorem dX0_choices_20 : decode cX0_choices 20 = .ok (.iconst 1, 1) := by decide +kernel
theorem dX0_choices_21 : decode cX0_choices 21 = .ok (.ireturn, 1) := by decide +kernel
theorem dX0_linksHold_0 : decode cX0_linksHold 0 = .ok (.iconst 1, 1) := by decide +kernel
theorem dX0_linksHold_1 : decode cX0_linksHold 1 = .ok (.istore_n 3, 1) := by decide +kernel
theorem dX0_linksHold_2 : decode cX0_linksHold 2 = .ok (.iload_n 3, 1) := by decide +kernel
theorem dX0_linksHold_3 : decode cX0_linksHold 3 = .ok (.iconst 2, 1) := by decide +kernel
theorem dX0_linksHold_4 : decode cX0_linksHold 4 = .ok (.aload_n 1, 1) := by decide +kernel
theorem dX0_linksHold_5 : decode cX0_linksHold 5 = .ok (.getfield 98, 3) := by decide +kernel
theorem dX0_linksHold_8 : decode cX0_linksHold 8 = .ok (.imul, 1) := by decide +kernel
theorem dX0_linksHold_9 : decode cX0_linksHold 9 = .ok (.if_icmp .ge 70, 3) := by decide +kernel
theorem dX0_linksHold_12 : decode cX0_linksHold 12 = .ok (.aload_n 1, 1) := by decide +kernel
theorem dX0_linksHold_13 : decode cX0_linksHold 13 = .ok (.getfield 101, 3) := by decide +kernel
theorem dX0_linksHold_16 : decode cX0_linksHold 16 = .ok (.iload_n 3, 1) := by decide +kernel
theorem dX0_linksHold_17 : decode cX0_linksHold 17 = .ok (.iaload, 1) := by decide +kernel
theorem dX0_linksHold_18 : decode cX0_linksHold 18 = .ok (.iload_n 2, 1) := by decide +kernel
theorem dX0_linksHold_19 : decode cX0_linksHold 19 = .ok (.if_icmp .eq 6, 3) := by decide +kernel
theorem dX0_linksHold_22 : decode cX0_linksHold 22 = .ok (.goto 51, 3) := by decide +kernel
theorem dX0_linksHold_25 : decode cX0_linksHold 25 = .ok (.aload_n 0, 1) := by decide +kernel
theorem dX0_linksHold_26 : decode cX0_linksHold 26 = .ok (.iload_n 2, 1) := by decide +kernel
theorem dX0_linksHold_27 : decode cX0_linksHold 27 = .ok (.aload_n 1, 1) := by decide +kernel
theorem dX0_linksHold_28 : decode cX0_linksHold 28 = .ok (.getfield 104, 3) := by decide +kernel
theorem dX0_linksHold_31 : decode cX0_linksHold 31 = .ok (.iload_n 3, 1) := by decide +kernel
theorem dX0_linksHold_32 : decode cX0_linksHold 32 = .ok (.iaload, 1) := by decide +kernel
theorem dX0_linksHold_33 : decode cX0_linksHold 33 = .ok (.invokevirtual 107, 3) := by decide +kernel
theorem dX0_linksHold_36 : decode cX0_linksHold 36 = .ok (.istore 4, 2) := by decide +kernel
theorem dX0_linksHold_38 : decode cX0_linksHold 38 = .ok (.iload 4, 2) := by decide +kernel
theorem dX0_linksHold_40 : decode cX0_linksHold 40 = .ok (.invokestatic 110, 3) := by decide +kernel
theorem dX0_linksHold_43 : decode cX0_linksHold 43 = .ok (.ifCond .eq 28, 3) := by decide +kernel
theorem dX0_linksHold_46 : decode cX0_linksHold 46 = .ok (.iload 4, 2) := by decide +kernel
theorem dX0_linksHold_48 : decode cX0_linksHold 48 = .ok (.aload_n 0, 1) := by decide +kernel
theorem dX0_linksHold_49 : decode cX0_linksHold 49 = .ok (.aload_n 1, 1) := by decide +kernel
theorem dX0_linksHold_50 : decode cX0_linksHold 50 = .ok (.getfield 101, 3) := by decide +kernel
theorem dX0_linksHold_53 : decode cX0_linksHold 53 = .ok (.iload_n 3, 1) := by decide +kernel
theorem dX0_linksHold_54 : decode cX0_linksHold 54 = .ok (.iconst 1, 1) := by decide +kernel
theorem dX0_linksHold_55 : decode cX0_linksHold 55 = .ok (.isub, 1) := by decide +kernel
theorem dX0_linksHold_56 : decode cX0_linksHold 56 = .ok (.iaload, 1) := by decide +kernel
theorem dX0_linksHold_57 : decode cX0_linksHold 57 = .ok (.aload_n 1, 1) := by decide +kernel
theorem dX0_linksHold_58 : decode cX0_linksHold 58 = .ok (.getfield 104, 3) := by decide +kernel
theorem dX0_linksHold_61 : decode cX0_linksHold 61 = .ok (.iload_n 3, 1) := by decide +kernel
theorem dX0_linksHold_62 : decode cX0_linksHold 62 = .ok (.iconst 1, 1) := by decide +kernel
theorem dX0_linksHold_63 : decode cX0_linksHold 63 = .ok (.isub, 1) := by decide +kernel
theorem dX0_linksHold_64 : decode cX0_linksHold 64 = .ok (.iaload, 1) := by decide +kernel
theorem dX0_linksHold_65 : decode cX0_linksHold 65 = .ok (.invokevirtual 107, 3) := by decide +kernel
theorem dX0_linksHold_68 : decode cX0_linksHold 68 = .ok (.if_icmp .eq 5, 3) := by decide +kernel
theorem dX0_linksHold_71 : decode cX0_linksHold 71 = .ok (.iconst 0, 1) := by decide +kernel
theorem dX0_linksHold_72 : decode cX0_linksHold 72 = .ok (.ireturn, 1) := by decide +kernel
theorem dX0_linksHold_73 : decode cX0_linksHold 73 = .ok (.iinc 3 2, 3) := by decide +kernel
theorem dX0_linksHold_76 : decode cX0_linksHold 76 = .ok (.goto (-74), 3) := by decide +kernel
theorem dX0_linksHold_79 : decode cX0_linksHold 79 = .ok (.iconst 1, 1) := by decide +kernel
theorem dX0_linksHold_80 : decode cX0_linksHold 80 = .ok (.ireturn, 1) := by decide +kernel
theorem dX0_pickedCell_0 : decode cX0_pickedCell 0 = .ok (.aload_n 0, 1) := by decide +kernel
theorem dX0_pickedCell_1 : decode cX0_pickedCell 1 = .ok (.getfield 11, 3) := by decide +kernel
theorem dX0_pickedCell_4 : decode cX0_pickedCell 4 = .ok (.iload_n 1, 1) := by decide +kernel
theorem dX0_pickedCell_5 : decode cX0_pickedCell 5 = .ok (.aaload, 1) := by decide +kernel
theorem dX0_pickedCell_6 : decode cX0_pickedCell 6 = .ok (.aload_n 0, 1) := by decide +kernel
theorem dX0_pickedCell_7 : decode cX0_pickedCell 7 = .ok (.getfield 21, 3) := by decide +kernel
theorem dX0_pickedCell_10 : decode cX0_pickedCell 10 = .ok (.iload_n 1, 1) := by decide +kernel
theorem dX0_pickedCell_11 : decode cX0_pickedCell 11 = .ok (.iaload, 1) := by decide +kernel
theorem dX0_pickedCell_12 : decode cX0_pickedCell 12 = .ok (.iload_n 2, 1) := by decide +kernel
theorem dX0_pickedCell_13 : decode cX0_pickedCell 13 = .ok (.invokevirtual 114, 3) := by decide +kernel
theorem dX0_pickedCell_16 : decode cX0_pickedCell 16 = .ok (.ireturn, 1) := by decide +kernel
theorem dX0_takeMatch_0 : decode cX0_takeMatch 0 = .ok (.aload_n 1, 1) := by decide +kernel
theorem dX0_takeMatch_1 : decode cX0_takeMatch 1 = .ok (.getfield 67, 3) := by decide +kernel
theorem dX0_takeMatch_4 : decode cX0_takeMatch 4 = .ok (.ifCond .eq 49, 3) := by decide +kernel
theorem dX0_takeMatch_7 : decode cX0_takeMatch 7 = .ok (.aload_n 1, 1) := by decide +kernel
theorem dX0_takeMatch_8 : decode cX0_takeMatch 8 = .ok (.getfield 71, 3) := by decide +kernel
theorem dX0_takeMatch_11 : decode cX0_takeMatch 11 = .ok (.iconst 1, 1) := by decide +kernel
theorem dX0_takeMatch_12 : decode cX0_takeMatch 12 = .ok (.isub, 1) := by decide +kernel
theorem dX0_takeMatch_13 : decode cX0_takeMatch 13 = .ok (.istore_n 2, 1) := by decide +kernel
theorem dX0_takeMatch_14 : decode cX0_takeMatch 14 = .ok (.aload_n 0, 1) := by decide +kernel
theorem dX0_takeMatch_15 : decode cX0_takeMatch 15 = .ok (.aload_n 0, 1) := by decide +kernel
theorem dX0_takeMatch_16 : decode cX0_takeMatch 16 = .ok (.aload_n 1, 1) := by decide +kernel
theorem dX0_takeMatch_17 : decode cX0_takeMatch 17 = .ok (.getfield 117, 3) := by decide +kernel
theorem dX0_takeMatch_20 : decode cX0_takeMatch 20 = .ok (.iconst 0, 1) := by decide +kernel
theorem dX0_takeMatch_21 : decode cX0_takeMatch 21 = .ok (.iaload, 1) := by decide +kernel
theorem dX0_takeMatch_22 : decode cX0_takeMatch 22 = .ok (.aload_n 1, 1) := by decide +kernel
theorem dX0_takeMatch_23 : decode cX0_takeMatch 23 = .ok (.getfield 120, 3) := by decide +kernel
theorem dX0_takeMatch_26 : decode cX0_takeMatch 26 = .ok (.iconst 0, 1) := by decide +kernel
theorem dX0_takeMatch_27 : decode cX0_takeMatch 27 = .ok (.iaload, 1) := by decide +kernel
theorem dX0_takeMatch_28 : decode cX0_takeMatch 28 = .ok (.invokevirtual 107, 3) := by decide +kernel
theorem dX0_takeMatch_31 : decode cX0_takeMatch 31 = .ok (.aload_n 0, 1) := by decide +kernel
theorem dX0_takeMatch_32 : decode cX0_takeMatch 32 = .ok (.aload_n 1, 1) := by decide +kernel
theorem dX0_takeMatch_33 : decode cX0_takeMatch 33 = .ok (.getfield 117, 3) := by decide +kernel
theorem dX0_takeMatch_36 : decode cX0_takeMatch 36 = .ok (.iload_n 2, 1) := by decide +kernel
theorem dX0_takeMatch_37 : decode cX0_takeMatch 37 = .ok (.iaload, 1) := by decide +kernel
theorem dX0_takeMatch_38 : decode cX0_takeMatch 38 = .ok (.aload_n 1, 1) := by decide +kernel
theorem dX0_takeMatch_39 : decode cX0_takeMatch 39 = .ok (.getfield 120, 3) := by decide +kernel
theorem dX0_takeMatch_42 : decode cX0_takeMatch 42 = .ok (.iload_n 2, 1) := by decide +kernel
theorem dX0_takeMatch_43 : decode cX0_takeMatch 43 = .ok (.iaload, 1) := by decide +kernel
theorem dX0_takeMatch_44 : decode cX0_takeMatch 44 = .ok (.invokevirtual 107, 3) := by decide +kernel
theorem dX0_takeMatch_47 : decode cX0_takeMatch 47 = .ok (.invokevirtual 123, 3) := by decide +kernel
theorem dX0_takeMatch_50 : decode cX0_takeMatch 50 = .ok (.goto 69, 3) := by decide +kernel
theorem dX0_takeMatch_53 : decode cX0_takeMatch 53 = .ok (.aload_n 0, 1) := by decide +kernel
theorem dX0_takeMatch_54 : decode cX0_takeMatch 54 = .ok (.getfield 53, 3) := by decide +kernel
theorem dX0_takeMatch_57 : decode cX0_takeMatch 57 = .ok (.aload_n 1, 1) := by decide +kernel
theorem dX0_takeMatch_58 : decode cX0_takeMatch 58 = .ok (.getfield 86, 3) := by decide +kernel
theorem dX0_takeMatch_61 : decode cX0_takeMatch 61 = .ok (.if_icmp .ge 58, 3) := by decide +kernel
theorem dX0_takeMatch_64 : decode cX0_takeMatch 64 = .ok (.iconst 0, 1) := by decide +kernel
theorem dX0_takeMatch_65 : decode cX0_takeMatch 65 = .ok (.istore_n 2, 1) := by decide +kernel
theorem dX0_takeMatch_66 : decode cX0_takeMatch 66 = .ok (.iload_n 2, 1) := by decide +kernel
theorem dX0_takeMatch_67 : decode cX0_takeMatch 67 = .ok (.aload_n 1, 1) := by decide +kernel
theorem dX0_takeMatch_68 : decode cX0_takeMatch 68 = .ok (.getfield 71, 3) := by decide +kernel
theorem dX0_takeMatch_71 : decode cX0_takeMatch 71 = .ok (.if_icmp .ge 38, 3) := by decide +kernel
theorem dX0_takeMatch_74 : decode cX0_takeMatch 74 = .ok (.aload_n 0, 1) := by decide +kernel
theorem dX0_takeMatch_75 : decode cX0_takeMatch 75 = .ok (.getfield 17, 3) := by decide +kernel
theorem dX0_takeMatch_78 : decode cX0_takeMatch 78 = .ok (.aload_n 0, 1) := by decide +kernel
theorem dX0_takeMatch_79 : decode cX0_takeMatch 79 = .ok (.getfield 53, 3) := by decide +kernel
theorem dX0_takeMatch_82 : decode cX0_takeMatch 82 = .ok (.iconst 3, 1) := by decide +kernel
theorem dX0_takeMatch_83 : decode cX0_takeMatch 83 = .ok (.imul, 1) := by decide +kernel
theorem dX0_takeMatch_84 : decode cX0_takeMatch 84 = .ok (.iload_n 2, 1) := by decide +kernel
theorem dX0_takeMatch_85 : decode cX0_takeMatch 85 = .ok (.iadd, 1) := by decide +kernel
theorem dX0_takeMatch_86 : decode cX0_takeMatch 86 = .ok (.aload_n 0, 1) := by decide +kernel
theorem dX0_takeMatch_87 : decode cX0_takeMatch 87 = .ok (.aload_n 1, 1) := by decide +kernel
theorem dX0_takeMatch_88 : decode cX0_takeMatch 88 = .ok (.getfield 117, 3) := by decide +kernel
theorem dX0_takeMatch_91 : decode cX0_takeMatch 91 = .ok (.iload_n 2, 1) := by decide +kernel
theorem dX0_takeMatch_92 : decode cX0_takeMatch 92 = .ok (.iaload, 1) := by decide +kernel
theorem dX0_takeMatch_93 : decode cX0_takeMatch 93 = .ok (.aload_n 1, 1) := by decide +kernel
theorem dX0_takeMatch_94 : decode cX0_takeMatch 94 = .ok (.getfield 120, 3) := by decide +kernel
theorem dX0_takeMatch_97 : decode cX0_takeMatch 97 = .ok (.iload_n 2, 1) := by decide +kernel
theorem dX0_takeMatch_98 : decode cX0_takeMatch 98 = .ok (.iaload, 1) := by decide +kernel
theorem dX0_takeMatch_99 : decode cX0_takeMatch 99 = .ok (.invokevirtual 107, 3) := by decide +kernel
theorem dX0_takeMatch_102 : decode cX0_takeMatch 102 = .ok (.iastore, 1) := by decide +kernel
theorem dX0_takeMatch_103 : decode cX0_takeMatch 103 = .ok (.iinc 2 1, 3) := by decide +kernel
theorem dX0_takeMatch_106 : decode cX0_takeMatch 106 = .ok (.goto (-40), 3) := by decide +kernel
theorem dX0_takeMatch_109 : decode cX0_takeMatch 109 = .ok (.aload_n 0, 1) := by decide +kernel
theorem dX0_takeMatch_110 : decode cX0_takeMatch 110 = .ok (.dup, 1) := by decide +kernel
theorem dX0_takeMatch_111 : decode cX0_takeMatch 111 = .ok (.getfield 53, 3) := by decide +kernel
theorem dX0_takeMatch_114 : decode cX0_takeMatch 114 = .ok (.iconst 1, 1) := by decide +kernel
theorem dX0_takeMatch_115 : decode cX0_takeMatch 115 = .ok (.iadd, 1) := by decide +kernel
theorem dX0_takeMatch_116 : decode cX0_takeMatch 116 = .ok (.putfield 53, 3) := by decide +kernel
theorem dX0_takeMatch_119 : decode cX0_takeMatch 119 = .ok (.return_, 1) := by decide +kernel
theorem dX0_takeIntoGroup_0 : decode cX0_takeIntoGroup 0 = .ok (.aload_n 0, 1) := by decide +kernel
theorem dX0_takeIntoGroup_1 : decode cX0_takeIntoGroup 1 = .ok (.iload_n 1, 1) := by decide +kernel
theorem dX0_takeIntoGroup_2 : decode cX0_takeIntoGroup 2 = .ok (.invokevirtual 127, 3) := by decide +kernel
theorem dX0_takeIntoGroup_5 : decode cX0_takeIntoGroup 5 = .ok (.iconst 3, 1) := by decide +kernel
theorem dX0_takeIntoGroup_6 : decode cX0_takeIntoGroup 6 = .ok (.imul, 1) := by decide +kernel
theorem dX0_takeIntoGroup_7 : decode cX0_takeIntoGroup 7 = .ok (.istore_n 3, 1) := by decide +kernel
theorem dX0_takeIntoGroup_8 : decode cX0_takeIntoGroup 8 = .ok (.aload_n 0, 1) := by decide +kernel
theorem dX0_takeIntoGroup_9 : decode cX0_takeIntoGroup 9 = .ok (.getfield 17, 3) := by decide +kernel
theorem dX0_takeIntoGroup_12 : decode cX0_takeIntoGroup 12 = .ok (.iload_n 3, 1) := by decide +kernel
theorem dX0_takeIntoGroup_13 : decode cX0_takeIntoGroup 13 = .ok (.iconst 1, 1) := by decide +kernel
theorem dX0_takeIntoGroup_14 : decode cX0_takeIntoGroup 14 = .ok (.iadd, 1) := by decide +kernel
theorem dX0_takeIntoGroup_15 : decode cX0_takeIntoGroup 15 = .ok (.dup2, 1) := by decide +kernel
theorem dX0_takeIntoGroup_16 : decode cX0_takeIntoGroup 16 = .ok (.iaload, 1) := by decide +kernel
theorem dX0_takeIntoGroup_17 : decode cX0_takeIntoGroup 17 = .ok (.iconst 1, 1) := by decide +kernel
theorem dX0_takeIntoGroup_18 : decode cX0_takeIntoGroup 18 = .ok (.iadd, 1) := by decide +kernel
theorem dX0_takeIntoGroup_19 : decode cX0_takeIntoGroup 19 = .ok (.iastore, 1) := by decide +kernel
theorem dX0_takeIntoGroup_20 : decode cX0_takeIntoGroup 20 = .ok (.iload_n 2, 1) := by decide +kernel
theorem dX0_takeIntoGroup_21 : decode cX0_takeIntoGroup 21 = .ok (.invokestatic 110, 3) := by decide +kernel
theorem dX0_takeIntoGroup_24 : decode cX0_takeIntoGroup 24 = .ok (.ifCond .eq 15, 3) := by decide +kernel
theorem dX0_takeIntoGroup_27 : decode cX0_takeIntoGroup 27 = .ok (.aload_n 0, 1) := by decide +kernel
theorem dX0_takeIntoGroup_28 : decode cX0_takeIntoGroup 28 = .ok (.getfield 17, 3) := by decide +kernel
theorem dX0_takeIntoGroup_31 : decode cX0_takeIntoGroup 31 = .ok (.iload_n 3, 1) := by decide +kernel
theorem dX0_takeIntoGroup_32 : decode cX0_takeIntoGroup 32 = .ok (.iconst 2, 1) := by decide +kernel
theorem dX0_takeIntoGroup_33 : decode cX0_takeIntoGroup 33 = .ok (.iadd, 1) := by decide +kernel
theorem dX0_takeIntoGroup_34 : decode cX0_takeIntoGroup 34 = .ok (.dup2, 1) := by decide +kernel
theorem dX0_takeIntoGroup_35 : decode cX0_takeIntoGroup 35 = .ok (.iaload, 1) := by decide +kernel
theorem dX0_takeIntoGroup_36 : decode cX0_takeIntoGroup 36 = .ok (.iload_n 2, 1) := by decide +kernel
theorem dX0_takeIntoGroup_37 : decode cX0_takeIntoGroup 37 = .ok (.iadd, 1) := by decide +kernel
theorem dX0_takeIntoGroup_38 : decode cX0_takeIntoGroup 38 = .ok (.iastore, 1) := by decide +kernel
theorem dX0_takeIntoGroup_39 : decode cX0_takeIntoGroup 39 = .ok (.return_, 1) := by decide +kernel
theorem dX0_groupOf_0 : decode cX0_groupOf 0 = .ok (.iconst 0, 1) := by decide +kernel
theorem dX0_groupOf_1 : decode cX0_groupOf 1 = .ok (.istore_n 2, 1) := by decide +kernel
theorem dX0_groupOf_2 : decode cX0_groupOf 2 = .ok (.iload_n 2, 1) := by decide +kernel
theorem dX0_groupOf_3 : decode cX0_groupOf 3 = .ok (.aload_n 0, 1) := by decide +kernel
theorem dX0_groupOf_4 : decode cX0_groupOf 4 = .ok (.getfield 53, 3) := by decide +kernel
theorem dX0_groupOf_7 : decode cX0_groupOf 7 = .ok (.if_icmp .ge 27, 3) := by decide +kernel
theorem dX0_groupOf_10 : decode cX0_groupOf 10 = .ok (.aload_n 0, 1) := by decide +kernel
theorem dX0_groupOf_11 : decode cX0_groupOf 11 = .ok (.getfield 17, 3) := by decide +kernel
theorem dX0_groupOf_14 : decode cX0_groupOf 14 = .ok (.iload_n 2, 1) := by decide +kernel
theorem dX0_groupOf_15 : decode cX0_groupOf 15 = .ok (.iconst 3, 1) := by decide +kernel
theorem dX0_groupOf_16 : decode cX0_groupOf 16 = .ok (.imul, 1) := by decide +kernel
theorem dX0_groupOf_17 : decode cX0_groupOf 17 = .ok (.iaload, 1) := by decide +kernel
theorem dX0_groupOf_18 : decode cX0_groupOf 18 = .ok (.invokestatic 131, 3) := by decide +kernel
theorem dX0_groupOf_21 : decode cX0_groupOf 21 = .ok (.iload_n 1, 1) := by decide +kernel
theorem dX0_groupOf_22 : decode cX0_groupOf 22 = .ok (.invokestatic 131, 3) := by decide +kernel
theorem dX0_groupOf_25 : decode cX0_groupOf 25 = .ok (.if_icmp .ge 9, 3) := by decide +kernel
theorem dX0_groupOf_28 : decode cX0_groupOf 28 = .ok (.iinc 2 1, 3) := by decide +kernel
theorem dX0_groupOf_31 : decode cX0_groupOf 31 = .ok (.goto (-29), 3) := by decide +kernel
theorem dX0_groupOf_34 : decode cX0_groupOf 34 = .ok (.iload_n 2, 1) := by decide +kernel
theorem dX0_groupOf_35 : decode cX0_groupOf 35 = .ok (.iconst 3, 1) := by decide +kernel
theorem dX0_groupOf_36 : decode cX0_groupOf 36 = .ok (.imul, 1) := by decide +kernel
theorem dX0_groupOf_37 : decode cX0_groupOf 37 = .ok (.istore_n 3, 1) := by decide +kernel
theorem dX0_groupOf_38 : decode cX0_groupOf 38 = .ok (.iload_n 2, 1) := by decide +kernel
theorem dX0_groupOf_39 : decode cX0_groupOf 39 = .ok (.aload_n 0, 1) := by decide +kernel
theorem dX0_groupOf_40 : decode cX0_groupOf 40 = .ok (.getfield 53, 3) := by decide +kernel
theorem dX0_groupOf_43 : decode cX0_groupOf 43 = .ok (.if_icmp .ge 15, 3) := by decide +kernel
theorem dX0_groupOf_46 : decode cX0_groupOf 46 = .ok (.aload_n 0, 1) := by decide +kernel
theorem dX0_groupOf_47 : decode cX0_groupOf 47 = .ok (.getfield 17, 3) := by decide +kernel
theorem dX0_groupOf_50 : decode cX0_groupOf 50 = .ok (.iload_n 3, 1) := by decide +kernel
theorem dX0_groupOf_51 : decode cX0_groupOf 51 = .ok (.iaload, 1) := by decide +kernel
theorem dX0_groupOf_52 : decode cX0_groupOf 52 = .ok (.iload_n 1, 1) := by decide +kernel
theorem dX0_groupOf_53 : decode cX0_groupOf 53 = .ok (.if_icmp .ne 5, 3) := by decide +kernel
theorem dX0_groupOf_56 : decode cX0_groupOf 56 = .ok (.iload_n 2, 1) := by decide +kernel
theorem dX0_groupOf_57 : decode cX0_groupOf 57 = .ok (.ireturn, 1) := by decide +kernel
theorem dX0_groupOf_58 : decode cX0_groupOf 58 = .ok (.aload_n 0, 1) := by decide +kernel
theorem dX0_groupOf_59 : decode cX0_groupOf 59 = .ok (.getfield 53, 3) := by decide +kernel
theorem dX0_groupOf_62 : decode cX0_groupOf 62 = .ok (.iconst 3, 1) := by decide +kernel
theorem dX0_groupOf_63 : decode cX0_groupOf 63 = .ok (.imul, 1) := by decide +kernel
theorem dX0_groupOf_64 : decode cX0_groupOf 64 = .ok (.iconst 1, 1) := by decide +kernel
theorem dX0_groupOf_65 : decode cX0_groupOf 65 = .ok (.isub, 1) := by decide +kernel
theorem dX0_groupOf_66 : decode cX0_groupOf 66 = .ok (.istore 4, 2) := by decide +kernel
theorem dX0_groupOf_68 : decode cX0_groupOf 68 = .ok (.iload 4, 2) := by decide +kernel
theorem dX0_groupOf_70 : decode cX0_groupOf 70 = .ok (.iload_n 3, 1) := by decide +kernel
theorem dX0_groupOf_71 : decode cX0_groupOf 71 = .ok (.if_icmp .lt 25, 3) := by decide +kernel
theorem dX0_groupOf_74 : decode cX0_groupOf 74 = .ok (.aload_n 0, 1) := by decide +kernel
theorem dX0_groupOf_75 : decode cX0_groupOf 75 = .ok (.getfield 17, 3) := by decide +kernel
theorem dX0_groupOf_78 : decode cX0_groupOf 78 = .ok (.iload 4, 2) := by decide +kernel
theorem dX0_groupOf_80 : decode cX0_groupOf 80 = .ok (.iconst 3, 1) := by decide +kernel
theorem dX0_groupOf_81 : decode cX0_groupOf 81 = .ok (.iadd, 1) := by decide +kernel
theorem dX0_groupOf_82 : decode cX0_groupOf 82 = .ok (.aload_n 0, 1) := by decide +kernel
theorem dX0_groupOf_83 : decode cX0_groupOf 83 = .ok (.getfield 17, 3) := by decide +kernel
theorem dX0_groupOf_86 : decode cX0_groupOf 86 = .ok (.iload 4, 2) := by decide +kernel
theorem dX0_groupOf_88 : decode cX0_groupOf 88 = .ok (.iaload, 1) := by decide +kernel
theorem dX0_groupOf_89 : decode cX0_groupOf 89 = .ok (.iastore, 1) := by decide +kernel
theorem dX0_groupOf_90 : decode cX0_groupOf 90 = .ok (.iinc 4 (-1), 3) := by decide +kernel
theorem dX0_groupOf_93 : decode cX0_groupOf 93 = .ok (.goto (-25), 3) := by decide +kernel
theorem dX0_groupOf_96 : decode cX0_groupOf 96 = .ok (.aload_n 0, 1) := by decide +kernel
theorem dX0_groupOf_97 : decode cX0_groupOf 97 = .ok (.getfield 17, 3) := by decide +kernel
theorem dX0_groupOf_100 : decode cX0_groupOf 100 = .ok (.iload_n 3, 1) := by decide +kernel
theorem dX0_groupOf_101 : decode cX0_groupOf 101 = .ok (.iload_n 1, 1) := by decide +kernel
theorem dX0_groupOf_102 : decode cX0_groupOf 102 = .ok (.iastore, 1) := by decide +kernel
theorem dX0_groupOf_103 : decode cX0_groupOf 103 = .ok (.aload_n 0, 1) := by decide +kernel
theorem dX0_groupOf_104 : decode cX0_groupOf 104 = .ok (.getfield 17, 3) := by decide +kernel
theorem dX0_groupOf_107 : decode cX0_groupOf 107 = .ok (.iload_n 3, 1) := by decide +kernel
theorem dX0_groupOf_108 : decode cX0_groupOf 108 = .ok (.iconst 1, 1) := by decide +kernel
theorem dX0_groupOf_109 : decode cX0_groupOf 109 = .ok (.iadd, 1) := by decide +kernel
theorem dX0_groupOf_110 : decode cX0_groupOf 110 = .ok (.iconst 0, 1) := by decide +kernel
theorem dX0_groupOf_111 : decode cX0_groupOf 111 = .ok (.iastore, 1) := by decide +kernel
theorem dX0_groupOf_112 : decode cX0_groupOf 112 = .ok (.aload_n 0, 1) := by decide +kernel
theorem dX0_groupOf_113 : decode cX0_groupOf 113 = .ok (.getfield 17, 3) := by decide +kernel
theorem dX0_groupOf_116 : decode cX0_groupOf 116 = .ok (.iload_n 3, 1) := by decide +kernel
theorem dX0_groupOf_117 : decode cX0_groupOf 117 = .ok (.iconst 2, 1) := by decide +kernel
theorem dX0_groupOf_118 : decode cX0_groupOf 118 = .ok (.iadd, 1) := by decide +kernel
theorem dX0_groupOf_119 : decode cX0_groupOf 119 = .ok (.iconst 0, 1) := by decide +kernel
theorem dX0_groupOf_120 : decode cX0_groupOf 120 = .ok (.iastore, 1) := by decide +kernel
theorem dX0_groupOf_121 : decode cX0_groupOf 121 = .ok (.aload_n 0, 1) := by decide +kernel
theorem dX0_groupOf_122 : decode cX0_groupOf 122 = .ok (.dup, 1) := by decide +kernel
theorem dX0_groupOf_123 : decode cX0_groupOf 123 = .ok (.getfield 53, 3) := by decide +kernel
theorem dX0_groupOf_126 : decode cX0_groupOf 126 = .ok (.iconst 1, 1) := by decide +kernel
theorem dX0_groupOf_127 : decode cX0_groupOf 127 = .ok (.iadd, 1) := by decide +kernel
theorem dX0_groupOf_128 : decode cX0_groupOf 128 = .ok (.putfield 53, 3) := by decide +kernel
theorem dX0_groupOf_131 : decode cX0_groupOf 131 = .ok (.iload_n 2, 1) := by decide +kernel
theorem dX0_groupOf_132 : decode cX0_groupOf 132 = .ok (.ireturn, 1) := by decide +kernel
theorem dX0_rank_0 : decode cX0_rank 0 = .ok (.iload_n 0, 1) := by decide +kernel
theorem dX0_rank_1 : decode cX0_rank 1 = .ok (.sipush 5001, 3) := by decide +kernel
theorem dX0_rank_4 : decode cX0_rank 4 = .ok (.if_icmp .ne 7, 3) := by decide +kernel
theorem dX0_rank_7 : decode cX0_rank 7 = .ok (.sipush (-1001), 3) := by decide +kernel
theorem dX0_rank_10 : decode cX0_rank 10 = .ok (.ireturn, 1) := by decide +kernel
theorem dX0_rank_11 : decode cX0_rank 11 = .ok (.iload_n 0, 1) := by decide +kernel
theorem dX0_rank_12 : decode cX0_rank 12 = .ok (.sipush 5000, 3) := by decide +kernel
theorem dX0_rank_15 : decode cX0_rank 15 = .ok (.if_icmp .ne 9, 3) := by decide +kernel
theorem dX0_rank_18 : decode cX0_rank 18 = .ok (.sipush (-1000), 3) := by decide +kernel
theorem dX0_rank_21 : decode cX0_rank 21 = .ok (.goto 4, 3) := by decide +kernel
theorem dX0_rank_24 : decode cX0_rank 24 = .ok (.iload_n 0, 1) := by decide +kernel
theorem dX0_rank_25 : decode cX0_rank 25 = .ok (.ireturn, 1) := by decide +kernel
theorem dX1_init_0 : decode cX1_init 0 = .ok (.aload_n 0, 1) := by decide +kernel
theorem dX1_init_1 : decode cX1_init 1 = .ok (.invokespecial 3, 3) := by decide +kernel
theorem dX1_init_4 : decode cX1_init 4 = .ok (.aload_n 0, 1) := by decide +kernel
theorem dX1_init_5 : decode cX1_init 5 = .ok (.bipush 12, 2) := by decide +kernel
theorem dX1_init_7 : decode cX1_init 7 = .ok (.newarray .int, 2) := by decide +kernel
theorem dX1_init_9 : decode cX1_init 9 = .ok (.putfield 9, 3) := by decide +kernel
theorem dX1_init_12 : decode cX1_init 12 = .ok (.aload_n 0, 1) := by decide +kernel
theorem dX1_init_13 : decode cX1_init 13 = .ok (.aload_n 1, 1) := by decide +kernel
theorem dX1_init_14 : decode cX1_init 14 = .ok (.putfield 15, 3) := by decide +kernel
theorem dX1_init_17 : decode cX1_init 17 = .ok (.aload_n 0, 1) := by decide +kernel
theorem dX1_init_18 : decode cX1_init 18 = .ok (.aload_n 2, 1) := by decide +kernel
theorem dX1_init_19 : decode cX1_init 19 = .ok (.putfield 19, 3) := by decide +kernel
theorem dX1_init_22 : decode cX1_init 22 = .ok (.aload_n 0, 1) := by decide +kernel
theorem dX1_init_23 : decode cX1_init 23 = .ok (.aload_n 3, 1) := by decide +kernel
theorem dX1_init_24 : decode cX1_init 24 = .ok (.putfield 23, 3) := by decide +kernel
theorem dX1_init_27 : decode cX1_init 27 = .ok (.aload_n 0, 1) := by decide +kernel
theorem dX1_init_28 : decode cX1_init 28 = .ok (.aload 4, 2) := by decide +kernel
theorem dX1_init_30 : decode cX1_init 30 = .ok (.putfield 27, 3) := by decide +kernel
theorem dX1_init_33 : decode cX1_init 33 = .ok (.aload_n 0, 1) := by decide +kernel
theorem dX1_init_34 : decode cX1_init 34 = .ok (.aload 5, 2) := by decide +kernel
theorem dX1_init_36 : decode cX1_init 36 = .ok (.putfield 31, 3) := by decide +kernel
theorem dX1_init_39 : decode cX1_init 39 = .ok (.return_, 1) := by decide +kernel
theorem dX1_begin_0 : decode cX1_begin 0 = .ok (.aload_n 0, 1) := by decide +kernel
theorem dX1_begin_1 : decode cX1_begin 1 = .ok (.iload_n 1, 1) := by decide +kernel
theorem dX1_begin_2 : decode cX1_begin 2 = .ok (.putfield 35, 3) := by decide +kernel
theorem dX1_begin_5 : decode cX1_begin 5 = .ok (.aload_n 0, 1) := by decide +kernel
theorem dX1_begin_6 : decode cX1_begin 6 = .ok (.iload_n 2, 1) := by decide +kernel
theorem dX1_begin_7 : decode cX1_begin 7 = .ok (.putfield 39, 3) := by decide +kernel
theorem dX1_begin_10 : decode cX1_begin 10 = .ok (.aload_n 0, 1) := by decide +kernel
theorem dX1_begin_11 : decode cX1_begin 11 = .ok (.iconst 0, 1) := by decide +kernel
theorem dX1_begin_12 : decode cX1_begin 12 = .ok (.putfield 42, 3) := by decide +kernel
theorem dX1_begin_15 : decode cX1_begin 15 = .ok (.aload_n 0, 1) := by decide +kernel
theorem dX1_begin_16 : decode cX1_begin 16 = .ok (.iload_n 3, 1) := by decide +kernel
theorem dX1_begin_17 : decode cX1_begin 17 = .ok (.putfield 45, 3) := by decide +kernel
theorem dX1_begin_20 : decode cX1_begin 20 = .ok (.aload_n 0, 1) := by decide +kernel
theorem dX1_begin_21 : decode cX1_begin 21 = .ok (.getfield 31, 3) := by decide +kernel
theorem dX1_begin_24 : decode cX1_begin 24 = .ok (.invokevirtual 48, 3) := by decide +kernel
theorem dX1_begin_27 : decode cX1_begin 27 = .ok (.return_, 1) := by decide +kernel
theorem dX1_end_0 : decode cX1_end 0 = .ok (.aload_n 0, 1) := by decide +kernel
theorem dX1_end_1 : decode cX1_end 1 = .ok (.getfield 31, 3) := by decide +kernel
theorem dX1_end_4 : decode cX1_end 4 = .ok (.aload_n 0, 1) := by decide +kernel
theorem dX1_end_5 : decode cX1_end 5 = .ok (.getfield 27, 3) := by decide +kernel
theorem dX1_end_8 : decode cX1_end 8 = .ok (.invokevirtual 53, 3) := by decide +kernel
theorem dX1_end_11 : decode cX1_end 11 = .ok (.aload_n 0, 1) := by decide +kernel
theorem dX1_end_12 : decode cX1_end 12 = .ok (.getfield 31, 3) := by decide +kernel
theorem dX1_end_15 : decode cX1_end 15 = .ok (.aload_n 0, 1) := by decide +kernel
theorem dX1_end_16 : decode cX1_end 16 = .ok (.getfield 31, 3) := by decide +kernel
theorem dX1_end_19 : decode cX1_end 19 = .ok (.getfield 57, 3) := by decide +kernel
theorem dX1_end_22 : decode cX1_end 22 = .ok (.ifCond .ne 21, 3) := by decide +kernel
theorem dX1_end_25 : decode cX1_end 25 = .ok (.aload_n 0, 1) := by decide +kernel
theorem dX1_end_26 : decode cX1_end 26 = .ok (.getfield 42, 3) := by decide +kernel
theorem dX1_end_29 : decode cX1_end 29 = .ok (.aload_n 0, 1) := by decide +kernel
theorem dX1_end_30 : decode cX1_end 30 = .ok (.getfield 45, 3) := by decide +kernel
theorem dX1_end_33 : decode cX1_end 33 = .ok (.if_icmp .gt 10, 3) := by decide +kernel
theorem dX1_end_36 : decode cX1_end 36 = .ok (.aload_n 0, 1) := by decide +kernel
theorem dX1_end_37 : decode cX1_end 37 = .ok (.getfield 45, 3) := by decide +kernel
theorem dX1_end_40 : decode cX1_end 40 = .ok (.goto 4, 3) := by decide +kernel
theorem dX1_end_43 : decode cX1_end 43 = .ok (.iconst (-1), 1) := by decide +kernel
theorem dX1_end_44 : decode cX1_end 44 = .ok (.putfield 60, 3) := by decide +kernel
theorem dX1_end_47 : decode cX1_end 47 = .ok (.return_, 1) := by decide +kernel
theorem dX1_nextSeat_0 : decode cX1_nextSeat 0 = .ok (.iconst 0, 1) := by decide +kernel
theorem dX1_nextSeat_1 : decode cX1_nextSeat 1 = .ok (.istore_n 1, 1) := by decide +kernel
theorem dX1_nextSeat_2 : decode cX1_nextSeat 2 = .ok (.ldc 63, 2) := by decide +kernel
theorem dX1_nextSeat_4 : decode cX1_nextSeat 4 = .ok (.istore_n 2, 1) := by decide +kernel
theorem dX1_nextSeat_5 : decode cX1_nextSeat 5 = .ok (.iconst 0, 1) := by decide +kernel
theorem dX1_nextSeat_6 : decode cX1_nextSeat 6 = .ok (.istore_n 3, 1) := by decide +kernel
theorem dX1_nextSeat_7 : decode cX1_nextSeat 7 = .ok (.iconst 0, 1) := by decide +kernel
theorem dX1_nextSeat_8 : decode cX1_nextSeat 8 = .ok (.istore 4, 2) := by decide +kernel
theorem dX1_nextSeat_10 : decode cX1_nextSeat 10 = .ok (.iload 4, 2) := by decide +kernel
theorem dX1_nextSeat_12 : decode cX1_nextSeat 12 = .ok (.aload_n 0, 1) := by decide +kernel
theorem dX1_nextSeat_13 : decode cX1_nextSeat 13 = .ok (.getfield 27, 3) := by decide +kernel
theorem dX1_nextSeat_16 : decode cX1_nextSeat 16 = .ok (.getfield 64, 3) := by decide +kernel
theorem dX1_nextSeat_19 : decode cX1_nextSeat 19 = .ok (.if_icmp .ge 76, 3) := by decide +kernel
theorem dX1_nextSeat_22 : decode cX1_nextSeat 22 = .ok (.aload_n 0, 1) := by decide +kernel
theorem dX1_nextSeat_23 : decode cX1_nextSeat 23 = .ok (.iload 4, 2) := by decide +kernel
theorem dX1_nextSeat_25 : decode cX1_nextSeat 25 = .ok (.invokevirtual 69, 3) := by decide +kernel
theorem dX1_nextSeat_28 : decode cX1_nextSeat 28 = .ok (.ifCond .eq 6, 3) := by decide +kernel
theorem dX1_nextSeat_31 : decode cX1_nextSeat 31 = .ok (.goto 58, 3) := by decide +kernel
theorem dX1_nextSeat_34 : decode cX1_nextSeat 34 = .ok (.aload_n 0, 1) := by decide +kernel
theorem dX1_nextSeat_35 : decode cX1_nextSeat 35 = .ok (.iload 4, 2) := by decide +kernel
theorem dX1_nextSeat_37 : decode cX1_nextSeat 37 = .ok (.invokevirtual 73, 3) := by decide +kernel
theorem dX1_nextSeat_40 : decode cX1_nextSeat 40 = .ok (.iconst (-1), 1) := by decide +kernel
theorem dX1_nextSeat_41 : decode cX1_nextSeat 41 = .ok (.if_icmp .eq 7, 3) := by decide +kernel
theorem dX1_nextSeat_44 : decode cX1_nextSeat 44 = .ok (.iconst 1, 1) := by decide +kernel
theorem dX1_nextSeat_45 : decode cX1_nextSeat 45 = .ok (.goto 4, 3) := by decide +kernel
theorem dX1_nextSeat_48 : decode cX1_nextSeat 48 = .ok (.iconst 0, 1) := by decide +kernel
theorem dX1_nextSeat_49 : decode cX1_nextSeat 49 = .ok (.istore 5, 2) := by decide +kernel
theorem dX1_nextSeat_51 : decode cX1_nextSeat 51 = .ok (.aload_n 0, 1) := by decide +kernel
theorem dX1_nextSeat_52 : decode cX1_nextSeat 52 = .ok (.iload 4, 2) := by decide +kernel
theorem dX1_nextSeat_54 : decode cX1_nextSeat 54 = .ok (.invokevirtual 77, 3) := by decide +kernel
theorem dX1_nextSeat_57 : decode cX1_nextSeat 57 = .ok (.istore 6, 2) := by decide +kernel
theorem dX1_nextSeat_59 : decode cX1_nextSeat 59 = .ok (.iload 5, 2) := by decide +kernel
theorem dX1_nextSeat_61 : decode cX1_nextSeat 61 = .ok (.ifCond .eq 7, 3) := by decide +kernel
theorem dX1_nextSeat_64 : decode cX1_nextSeat 64 = .ok (.iload_n 3, 1) := by decide +kernel
theorem dX1_nextSeat_65 : decode cX1_nextSeat 65 = .ok (.ifCond .eq 15, 3) := by decide +kernel
theorem dX1_nextSeat_68 : decode cX1_nextSeat 68 = .ok (.iload 5, 2) := by decide +kernel
theorem dX1_nextSeat_70 : decode cX1_nextSeat 70 = .ok (.iload_n 3, 1) := by decide +kernel
theorem dX1_nextSeat_71 : decode cX1_nextSeat 71 = .ok (.if_icmp .ne 18, 3) := by decide +kernel
theorem dX1_nextSeat_74 : decode cX1_nextSeat 74 = .ok (.iload 6, 2) := by decide +kernel
theorem dX1_nextSeat_76 : decode cX1_nextSeat 76 = .ok (.iload_n 2, 1) := by decide +kernel
theorem dX1_nextSeat_77 : decode cX1_nextSeat 77 = .ok (.if_icmp .ge 12, 3) := by decide +kernel
theorem dX1_nextSeat_80 : decode cX1_nextSeat 80 = .ok (.iload 4, 2) := by decide +kernel
theorem dX1_nextSeat_82 : decode cX1_nextSeat 82 = .ok (.istore_n 1, 1) := by decide +kernel
theorem dX1_nextSeat_83 : decode cX1_nextSeat 83 = .ok (.iload 6, 2) := by decide +kernel
theorem dX1_nextSeat_85 : decode cX1_nextSeat 85 = .ok (.istore_n 2, 1) := by decide +kernel
theorem dX1_nextSeat_86 : decode cX1_nextSeat 86 = .ok (.iload 5, 2) := by decide +kernel
theorem dX1_nextSeat_88 : decode cX1_nextSeat 88 = .ok (.istore_n 3, 1) := by decide +kernel
theorem dX1_nextSeat_89 : decode cX1_nextSeat 89 = .ok (.iinc 4 1, 3) := by decide +kernel
theorem dX1_nextSeat_92 : decode cX1_nextSeat 92 = .ok (.goto (-82), 3) := by decide +kernel
theorem dX1_nextSeat_95 : decode cX1_nextSeat 95 = .ok (.iload_n 1, 1) := by decide +kernel
theorem dX1_nextSeat_96 : decode cX1_nextSeat 96 = .ok (.ireturn, 1) := by decide +kernel
theorem dX1_takeSeat_0 : decode cX1_takeSeat 0 = .ok (.aload_n 0, 1) := by decide +kernel
theorem dX1_takeSeat_1 : decode cX1_takeSeat 1 = .ok (.getfield 27, 3) := by decide +kernel
theorem dX1_takeSeat_4 : decode cX1_takeSeat 4 = .ok (.getfield 80, 3) := by decide +kernel
theorem dX1_takeSeat_7 : decode cX1_takeSeat 7 = .ok (.iload_n 1, 1) := by decide +kernel
theorem dX1_takeSeat_8 : decode cX1_takeSeat 8 = .ok (.iaload, 1) := by decide +kernel
theorem dX1_takeSeat_9 : decode cX1_takeSeat 9 = .ok (.istore_n 2, 1) := by decide +kernel
theorem dX1_takeSeat_10 : decode cX1_takeSeat 10 = .ok (.aload_n 0, 1) := by decide +kernel
theorem dX1_takeSeat_11 : decode cX1_takeSeat 11 = .ok (.getfield 23, 3) := by decide +kernel
theorem dX1_takeSeat_14 : decode cX1_takeSeat 14 = .ok (.aload_n 0, 1) := by decide +kernel
theorem dX1_takeSeat_15 : decode cX1_takeSeat 15 = .ok (.getfield 27, 3) := by decide +kernel
theorem dX1_takeSeat_18 : decode cX1_takeSeat 18 = .ok (.iload_n 1, 1) := by decide +kernel
theorem dX1_takeSeat_19 : decode cX1_takeSeat 19 = .ok (.aload_n 0, 1) := by decide +kernel
theorem dX1_takeSeat_20 : decode cX1_takeSeat 20 = .ok (.getfield 35, 3) := by decide +kernel
theorem dX1_takeSeat_23 : decode cX1_takeSeat 23 = .ok (.invokevirtual 82, 3) := by decide +kernel
theorem dX1_takeSeat_26 : decode cX1_takeSeat 26 = .ok (.astore_n 3, 1) := by decide +kernel
theorem dX1_takeSeat_27 : decode cX1_takeSeat 27 = .ok (.aload_n 3, 1) := by decide +kernel
theorem dX1_takeSeat_28 : decode cX1_takeSeat 28 = .ok (.ifnull 38, 3) := by decide +kernel
theorem dX1_takeSeat_31 : decode cX1_takeSeat 31 = .ok (.aload_n 0, 1) := by decide +kernel
theorem dX1_takeSeat_32 : decode cX1_takeSeat 32 = .ok (.getfield 31, 3) := by decide +kernel
theorem dX1_takeSeat_35 : decode cX1_takeSeat 35 = .ok (.getfield 88, 3) := by decide +kernel
theorem dX1_takeSeat_38 : decode cX1_takeSeat 38 = .ok (.iload_n 1, 1) := by decide +kernel
theorem dX1_takeSeat_39 : decode cX1_takeSeat 39 = .ok (.aaload, 1) := by decide +kernel
theorem dX1_takeSeat_40 : decode cX1_takeSeat 40 = .ok (.aload_n 3, 1) := by decide +kernel
theorem dX1_takeSeat_41 : decode cX1_takeSeat 41 = .ok (.getfield 92, 3) := by decide +kernel
theorem dX1_takeSeat_44 : decode cX1_takeSeat 44 = .ok (.invokevirtual 97, 3) := by decide +kernel
theorem dX1_takeSeat_47 : decode cX1_takeSeat 47 = .ok (.aload_n 0, 1) := by decide +kernel
theorem dX1_takeSeat_48 : decode cX1_takeSeat 48 = .ok (.aload_n 3, 1) := by decide +kernel
theorem dX1_takeSeat_49 : decode cX1_takeSeat 49 = .ok (.getfield 103, 3) := by decide +kernel
theorem dX1_takeSeat_52 : decode cX1_takeSeat 52 = .ok (.aload_n 3, 1) := by decide +kernel
theorem dX1_takeSeat_53 : decode cX1_takeSeat 53 = .ok (.getfield 104, 3) := by decide +kernel
theorem dX1_takeSeat_56 : decode cX1_takeSeat 56 = .ok (.invokevirtual 105, 3) := by decide +kernel
theorem dX1_takeSeat_59 : decode cX1_takeSeat 59 = .ok (.aload_n 0, 1) := by decide +kernel
theorem dX1_takeSeat_60 : decode cX1_takeSeat 60 = .ok (.iload_n 1, 1) := by decide +kernel
theorem dX1_takeSeat_61 : decode cX1_takeSeat 61 = .ok (.iconst 0, 1) := by decide +kernel
theorem dX1_takeSeat_62 : decode cX1_takeSeat 62 = .ok (.invokevirtual 109, 3) := by decide +kernel
theorem dX1_takeSeat_65 : decode cX1_takeSeat 65 = .ok (.return_, 1) := by decide +kernel
theorem dX1_takeSeat_66 : decode cX1_takeSeat 66 = .ok (.aload_n 0, 1) := by decide +kernel
theorem dX1_takeSeat_67 : decode cX1_takeSeat 67 = .ok (.aload_n 0, 1) := by decide +kernel
theorem dX1_takeSeat_68 : decode cX1_takeSeat 68 = .ok (.getfield 19, 3) := by decide +kernel
theorem dX1_takeSeat_71 : decode cX1_takeSeat 71 = .ok (.getfield 112, 3) := by decide +kernel
theorem dX1_takeSeat_74 : decode cX1_takeSeat 74 = .ok (.iload_n 2, 1) := by decide +kernel
theorem dX1_takeSeat_75 : decode cX1_takeSeat 75 = .ok (.iaload, 1) := by decide +kernel
theorem dX1_takeSeat_76 : decode cX1_takeSeat 76 = .ok (.aload_n 0, 1) := by decide +kernel
theorem dX1_takeSeat_77 : decode cX1_takeSeat 77 = .ok (.getfield 45, 3) := by decide +kernel
theorem dX1_takeSeat_80 : decode cX1_takeSeat 80 = .ok (.invokevirtual 105, 3) := by decide +kernel
theorem dX1_takeSeat_83 : decode cX1_takeSeat 83 = .ok (.iconst 3, 1) := by decide +kernel
theorem dX1_takeSeat_84 : decode cX1_takeSeat 84 = .ok (.istore 4, 2) := by decide +kernel
theorem dX1_takeSeat_86 : decode cX1_takeSeat 86 = .ok (.aload_n 0, 1) := by decide +kernel
theorem dX1_takeSeat_87 : decode cX1_takeSeat 87 = .ok (.iload_n 1, 1) := by decide +kernel
theorem dX1_takeSeat_88 : decode cX1_takeSeat 88 = .ok (.invokevirtual 73, 3) := by decide +kernel
theorem dX1_takeSeat_91 : decode cX1_takeSeat 91 = .ok (.istore 5, 2) := by decide +kernel
theorem dX1_takeSeat_93 : decode cX1_takeSeat 93 = .ok (.iload 5, 2) := by decide +kernel
theorem dX1_takeSeat_95 : decode cX1_takeSeat 95 = .ok (.iconst (-1), 1) := by decide +kernel
theorem dX1_takeSeat_96 : decode cX1_takeSeat 96 = .ok (.if_icmp .eq 68, 3) := by decide +kernel
theorem dX1_takeSeat_99 : decode cX1_takeSeat 99 = .ok (.aload_n 0, 1) := by decide +kernel
theorem dX1_takeSeat_100 : decode cX1_takeSeat 100 = .ok (.iload_n 2, 1) := by decide +kernel
theorem dX1_takeSeat_101 : decode cX1_takeSeat 101 = .ok (.iload 5, 2) := by decide +kernel
theorem dX1_takeSeat_103 : decode cX1_takeSeat 103 = .ok (.invokevirtual 117, 3) := by decide +kernel
theorem dX1_takeSeat_106 : decode cX1_takeSeat 106 = .ok (.ifCond .eq 58, 3) := by decide +kernel
theorem dX1_takeSeat_109 : decode cX1_takeSeat 109 = .ok (.aload_n 0, 1) := by decide +kernel
theorem dX1_takeSeat_110 : decode cX1_takeSeat 110 = .ok (.iload_n 1, 1) := by decide +kernel
theorem dX1_takeSeat_111 : decode cX1_takeSeat 111 = .ok (.invokevirtual 121, 3) := by decide +kernel
theorem dX1_takeSeat_114 : decode cX1_takeSeat 114 = .ok (.istore 6, 2) := by decide +kernel
theorem dX1_takeSeat_116 : decode cX1_takeSeat 116 = .ok (.aload_n 0, 1) := by decide +kernel
theorem dX1_takeSeat_117 : decode cX1_takeSeat 117 = .ok (.iload 5, 2) := by decide +kernel
theorem dX1_takeSeat_119 : decode cX1_takeSeat 119 = .ok (.iconst 1, 1) := by decide +kernel
theorem dX1_takeSeat_120 : decode cX1_takeSeat 120 = .ok (.ixor, 1) := by decide +kernel
theorem dX1_takeSeat_121 : decode cX1_takeSeat 121 = .ok (.invokevirtual 124, 3) := by decide +kernel
theorem dX1_takeSeat_124 : decode cX1_takeSeat 124 = .ok (.aload_n 0, 1) := by decide +kernel
theorem dX1_takeSeat_125 : decode cX1_takeSeat 125 = .ok (.iload_n 2, 1) := by decide +kernel
theorem dX1_takeSeat_126 : decode cX1_takeSeat 126 = .ok (.invokestatic 128, 3) := by decide +kernel
theorem dX1_takeSeat_129 : decode cX1_takeSeat 129 = .ok (.invokevirtual 131, 3) := by decide +kernel
theorem dX1_takeSeat_132 : decode cX1_takeSeat 132 = .ok (.iload 6, 2) := by decide +kernel
theorem dX1_takeSeat_134 : decode cX1_takeSeat 134 = .ok (.if_icmp .ge 30, 3) := by decide +kernel
theorem dX1_takeSeat_137 : decode cX1_takeSeat 137 = .ok (.aload_n 0, 1) := by decide +kernel
theorem dX1_takeSeat_138 : decode cX1_takeSeat 138 = .ok (.iload_n 1, 1) := by decide +kernel
theorem dX1_takeSeat_139 : decode cX1_takeSeat 139 = .ok (.aload_n 0, 1) := by decide +kernel
theorem dX1_takeSeat_140 : decode cX1_takeSeat 140 = .ok (.getfield 27, 3) := by decide +kernel
theorem dX1_takeSeat_143 : decode cX1_takeSeat 143 = .ok (.getfield 134, 3) := by decide +kernel
theorem dX1_takeSeat_146 : decode cX1_takeSeat 146 = .ok (.iload 5, 2) := by decide +kernel
theorem dX1_takeSeat_148 : decode cX1_takeSeat 148 = .ok (.iaload, 1) := by decide +kernel
theorem dX1_takeSeat_149 : decode cX1_takeSeat 149 = .ok (.aload_n 0, 1) := by decide +kernel
theorem dX1_takeSeat_150 : decode cX1_takeSeat 150 = .ok (.getfield 31, 3) := by decide +kernel
theorem dX1_takeSeat_153 : decode cX1_takeSeat 153 = .ok (.getfield 137, 3) := by decide +kernel
theorem dX1_takeSeat_156 : decode cX1_takeSeat 156 = .ok (.iload 6, 2) := by decide +kernel
theorem dX1_takeSeat_158 : decode cX1_takeSeat 158 = .ok (.iadd, 1) := by decide +kernel
theorem dX1_takeSeat_159 : decode cX1_takeSeat 159 = .ok (.invokevirtual 140, 3) := by decide +kernel
theorem dX1_takeSeat_162 : decode cX1_takeSeat 162 = .ok (.istore 4, 2) := by decide +kernel
theorem dX1_takeSeat_164 : decode cX1_takeSeat 164 = .ok (.iload 4, 2) := by decide +kernel
theorem dX1_takeSeat_166 : decode cX1_takeSeat 166 = .ok (.iconst 1, 1) := by decide +kernel
theorem dX1_takeSeat_167 : decode cX1_takeSeat 167 = .ok (.if_icmp .eq 8, 3) := by decide +kernel
theorem dX1_takeSeat_170 : decode cX1_takeSeat 170 = .ok (.aload_n 0, 1) := by decide +kernel
theorem dX1_takeSeat_171 : decode cX1_takeSeat 171 = .ok (.iload_n 1, 1) := by decide +kernel
theorem dX1_takeSeat_172 : decode cX1_takeSeat 172 = .ok (.invokevirtual 144, 3) := by decide +kernel
theorem dX1_takeSeat_175 : decode cX1_takeSeat 175 = .ok (.aload_n 0, 1) := by decide +kernel
theorem dX1_takeSeat_176 : decode cX1_takeSeat 176 = .ok (.iload_n 1, 1) := by decide +kernel
theorem dX1_takeSeat_177 : decode cX1_takeSeat 177 = .ok (.iload 4, 2) := by decide +kernel
theorem dX1_takeSeat_179 : decode cX1_takeSeat 179 = .ok (.invokevirtual 109, 3) := by decide +kernel
theorem dX1_takeSeat_182 : decode cX1_takeSeat 182 = .ok (.return_, 1) := by decide +kernel
theorem dX1_close_0 : decode cX1_close 0 = .ok (.aload_n 0, 1) := by decide +kernel
theorem dX1_close_1 : decode cX1_close 1 = .ok (.getfield 31, 3) := by decide +kernel
theorem dX1_close_4 : decode cX1_close 4 = .ok (.aload_n 0, 1) := by decide +kernel
theorem dX1_close_5 : decode cX1_close 5 = .ok (.getfield 27, 3) := by decide +kernel
theorem dX1_close_8 : decode cX1_close 8 = .ok (.iload_n 1, 1) := by decide +kernel
theorem dX1_close_9 : decode cX1_close 9 = .ok (.invokevirtual 147, 3) := by decide +kernel
theorem dX1_close_12 : decode cX1_close 12 = .ok (.aload_n 0, 1) := by decide +kernel
theorem dX1_close_13 : decode cX1_close 13 = .ok (.getfield 31, 3) := by decide +kernel
theorem dX1_close_16 : decode cX1_close 16 = .ok (.getfield 151, 3) := by decide +kernel
theorem dX1_close_19 : decode cX1_close 19 = .ok (.aload_n 0, 1) := by decide +kernel
theorem dX1_close_20 : decode cX1_close 20 = .ok (.getfield 31, 3) := by decide +kernel
theorem dX1_close_23 : decode cX1_close 23 = .ok (.getfield 154, 3) := by decide +kernel
theorem dX1_close_26 : decode cX1_close 26 = .ok (.iload_n 1, 1) := by decide +kernel
theorem dX1_close_27 : decode cX1_close 27 = .ok (.iastore, 1) := by decide +kernel
theorem dX1_close_28 : decode cX1_close 28 = .ok (.aload_n 0, 1) := by decide +kernel
theorem dX1_close_29 : decode cX1_close 29 = .ok (.getfield 31, 3) := by decide +kernel
theorem dX1_close_32 : decode cX1_close 32 = .ok (.getfield 157, 3) := by decide +kernel
theorem dX1_close_35 : decode cX1_close 35 = .ok (.aload_n 0, 1) := by decide +kernel
theorem dX1_close_36 : decode cX1_close 36 = .ok (.getfield 31, 3) := by decide +kernel
theorem dX1_close_39 : decode cX1_close 39 = .ok (.getfield 154, 3) := by decide +kernel
theorem dX1_close_42 : decode cX1_close 42 = .ok (.iload_n 2, 1) := by decide +kernel
theorem dX1_close_43 : decode cX1_close 43 = .ok (.iastore, 1) := by decide +kernel
theorem dX1_close_44 : decode cX1_close 44 = .ok (.aload_n 0, 1) := by decide +kernel
theorem dX1_close_45 : decode cX1_close 45 = .ok (.getfield 31, 3) := by decide +kernel
theorem dX1_close_48 : decode cX1_close 48 = .ok (.dup, 1) := by decide +kernel
theorem dX1_close_49 : decode cX1_close 49 = .ok (.getfield 154, 3) := by decide +kernel
theorem dX1_close_52 : decode cX1_close 52 = .ok (.iconst 1, 1) := by decide +kernel
theorem dX1_close_53 : decode cX1_close 53 = .ok (.iadd, 1) := by decide +kernel
theorem dX1_close_54 : decode cX1_close 54 = .ok (.putfield 154, 3) := by decide +kernel
theorem dX1_close_57 : decode cX1_close 57 = .ok (.return_, 1) := by decide +kernel
theorem dX1_narrow_0 : decode cX1_narrow 0 = .ok (.aload_n 0, 1) := by decide +kernel
theorem dX1_narrow_1 : decode cX1_narrow 1 = .ok (.aload_n 0, 1) := by decide +kernel
theorem dX1_narrow_2 : decode cX1_narrow 2 = .ok (.getfield 42, 3) := by decide +kernel
theorem dX1_narrow_5 : decode cX1_narrow 5 = .ok (.iload_n 1, 1) := by decide +kernel
theorem dX1_narrow_6 : decode cX1_narrow 6 = .ok (.invokestatic 160, 3) := by decide +kernel
theorem dX1_narrow_9 : decode cX1_narrow 9 = .ok (.putfield 42, 3) := by decide +kernel
theorem dX1_narrow_12 : decode cX1_narrow 12 = .ok (.aload_n 0, 1) := by decide +kernel
theorem dX1_narrow_13 : decode cX1_narrow 13 = .ok (.aload_n 0, 1) := by decide +kernel
theorem dX1_narrow_14 : decode cX1_narrow 14 = .ok (.getfield 45, 3) := by decide +kernel
theorem dX1_narrow_17 : decode cX1_narrow 17 = .ok (.iload_n 2, 1) := by decide +kernel
theorem dX1_narrow_18 : decode cX1_narrow 18 = .ok (.invokestatic 166, 3) := by decide +kernel
theorem dX1_narrow_21 : decode cX1_narrow 21 = .ok (.putfield 45, 3) := by decide +kernel
theorem dX1_narrow_24 : decode cX1_narrow 24 = .ok (.return_, 1) := by decide +kernel
theorem dX1_isTaken_0 : decode cX1_isTaken 0 = .ok (.iconst 0, 1) := by decide +kernel
theorem dX1_isTaken_1 : decode cX1_isTaken 1 = .ok (.istore_n 2, 1) := by decide +kernel
theorem dX1_isTaken_2 : decode cX1_isTaken 2 = .ok (.iload_n 2, 1) := by decide +kernel
theorem dX1_isTaken_3 : decode cX1_isTaken 3 = .ok (.aload_n 0, 1) := by decide +kernel
theorem dX1_isTaken_4 : decode cX1_isTaken 4 = .ok (.getfield 31, 3) := by decide +kernel
theorem dX1_isTaken_7 : decode cX1_isTaken 7 = .ok (.getfield 154, 3) := by decide +kernel
theorem dX1_isTaken_10 : decode cX1_isTaken 10 = .ok (.if_icmp .ge 24, 3) := by decide +kernel
theorem dX1_isTaken_13 : decode cX1_isTaken 13 = .ok (.aload_n 0, 1) := by decide +kernel
theorem dX1_isTaken_14 : decode cX1_isTaken 14 = .ok (.getfield 31, 3) := by decide +kernel
theorem dX1_isTaken_17 : decode cX1_isTaken 17 = .ok (.getfield 151, 3) := by decide +kernel
theorem dX1_isTaken_20 : decode cX1_isTaken 20 = .ok (.iload_n 2, 1) := by decide +kernel
theorem dX1_isTaken_21 : decode cX1_isTaken 21 = .ok (.iaload, 1) := by decide +kernel
theorem dX1_isTaken_22 : decode cX1_isTaken 22 = .ok (.iload_n 1, 1) := by decide +kernel
theorem dX1_isTaken_23 : decode cX1_isTaken 23 = .ok (.if_icmp .ne 5, 3) := by decide +kernel
theorem dX1_isTaken_26 : decode cX1_isTaken 26 = .ok (.iconst 1, 1) := by decide +kernel
theorem dX1_isTaken_27 : decode cX1_isTaken 27 = .ok (.ireturn, 1) := by decide +kernel
theorem dX1_isTaken_28 : decode cX1_isTaken 28 = .ok (.iinc 2 1, 3) := by decide +kernel
theorem dX1_isTaken_31 : decode cX1_isTaken 31 = .ok (.goto (-29), 3) := by decide +kernel
theorem dX1_isTaken_34 : decode cX1_isTaken 34 = .ok (.iconst 0, 1) := by decide +kernel
theorem dX1_isTaken_35 : decode cX1_isTaken 35 = .ok (.ireturn, 1) := by decide +kernel
theorem dX1_endOf_0 : decode cX1_endOf 0 = .ok (.iconst 0, 1) := by decide +kernel
theorem dX1_endOf_1 : decode cX1_endOf 1 = .ok (.istore_n 2, 1) := by decide +kernel
theorem dX1_endOf_2 : decode cX1_endOf 2 = .ok (.iload_n 2, 1) := by decide +kernel
theorem dX1_endOf_3 : decode cX1_endOf 3 = .ok (.iconst 2, 1) := by decide +kernel
theorem dX1_endOf_4 : decode cX1_endOf 4 = .ok (.aload_n 0, 1) := by decide +kernel
theorem dX1_endOf_5 : decode cX1_endOf 5 = .ok (.getfield 27, 3) := by decide +kernel
theorem dX1_endOf_8 : decode cX1_endOf 8 = .ok (.getfield 169, 3) := by decide +kernel
theorem dX1_endOf_11 : decode cX1_endOf 11 = .ok (.imul, 1) := by decide +kernel
theorem dX1_endOf_12 : decode cX1_endOf 12 = .ok (.if_icmp .ge 42, 3) := by decide +kernel
theorem dX1_endOf_15 : decode cX1_endOf 15 = .ok (.aload_n 0, 1) := by decide +kernel
theorem dX1_endOf_16 : decode cX1_endOf 16 = .ok (.getfield 27, 3) := by decide +kernel
theorem dX1_endOf_19 : decode cX1_endOf 19 = .ok (.getfield 172, 3) := by decide +kernel
theorem dX1_endOf_22 : decode cX1_endOf 22 = .ok (.iload_n 2, 1) := by decide +kernel
theorem dX1_endOf_23 : decode cX1_endOf 23 = .ok (.iaload, 1) := by decide +kernel
theorem dX1_endOf_24 : decode cX1_endOf 24 = .ok (.iload_n 1, 1) := by decide +kernel
theorem dX1_endOf_25 : decode cX1_endOf 25 = .ok (.if_icmp .ne 23, 3) := by decide +kernel
theorem dX1_endOf_28 : decode cX1_endOf 28 = .ok (.aload_n 0, 1) := by decide +kernel
theorem dX1_endOf_29 : decode cX1_endOf 29 = .ok (.aload_n 0, 1) := by decide +kernel
theorem dX1_endOf_30 : decode cX1_endOf 30 = .ok (.getfield 27, 3) := by decide +kernel
theorem dX1_endOf_33 : decode cX1_endOf 33 = .ok (.getfield 172, 3) := by decide +kernel
theorem dX1_endOf_36 : decode cX1_endOf 36 = .ok (.iload_n 2, 1) := by decide +kernel
theorem dX1_endOf_37 : decode cX1_endOf 37 = .ok (.iconst 1, 1) := by decide +kernel
theorem dX1_endOf_38 : decode cX1_endOf 38 = .ok (.ixor, 1) := by decide +kernel
theorem dX1_endOf_39 : decode cX1_endOf 39 = .ok (.iaload, 1) := by decide +kernel
theorem dX1_endOf_40 : decode cX1_endOf 40 = .ok (.invokevirtual 69, 3) := by decide +kernel
theorem dX1_endOf_43 : decode cX1_endOf 43 = .ok (.ifCond .eq 5, 3) := by decide +kernel
theorem dX1_endOf_46 : decode cX1_endOf 46 = .ok (.iload_n 2, 1) := by decide +kernel
theorem dX1_endOf_47 : decode cX1_endOf 47 = .ok (.ireturn, 1) := by decide +kernel
theorem dX1_endOf_48 : decode cX1_endOf 48 = .ok (.iinc 2 1, 3) := by decide +kernel
theorem dX1_endOf_51 : decode cX1_endOf 51 = .ok (.goto (-49), 3) := by decide +kernel
theorem dX1_endOf_54 : decode cX1_endOf 54 = .ok (.iconst (-1), 1) := by decide +kernel
theorem dX1_endOf_55 : decode cX1_endOf 55 = .ok (.ireturn, 1) := by decide +kernel
theorem dX1_guessOf_0 : decode cX1_guessOf 0 = .ok (.iconst 1, 1) := by decide +kernel
theorem dX1_guessOf_1 : decode cX1_guessOf 1 = .ok (.aload_n 0, 1) := by decide +kernel
theorem dX1_guessOf_2 : decode cX1_guessOf 2 = .ok (.getfield 19, 3) := by decide +kernel
theorem dX1_guessOf_5 : decode cX1_guessOf 5 = .ok (.getfield 175, 3) := by decide +kernel
theorem dX1_guessOf_8 : decode cX1_guessOf 8 = .ok (.aload_n 0, 1) := by decide +kernel
theorem dX1_guessOf_9 : decode cX1_guessOf 9 = .ok (.getfield 27, 3) := by decide +kernel
theorem dX1_guessOf_12 : decode cX1_guessOf 12 = .ok (.getfield 80, 3) := by decide +kernel
theorem dX1_guessOf_15 : decode cX1_guessOf 15 = .ok (.iload_n 1, 1) := by decide +kernel
theorem dX1_guessOf_16 : decode cX1_guessOf 16 = .ok (.iaload, 1) := by decide +kernel
theorem dX1_guessOf_17 : decode cX1_guessOf 17 = .ok (.iaload, 1) := by decide +kernel
theorem dX1_guessOf_18 : decode cX1_guessOf 18 = .ok (.aload_n 0, 1) := by decide +kernel
theorem dX1_guessOf_19 : decode cX1_guessOf 19 = .ok (.getfield 27, 3) := by decide +kernel
theorem dX1_guessOf_22 : decode cX1_guessOf 22 = .ok (.iload_n 1, 1) := by decide +kernel
theorem dX1_guessOf_23 : decode cX1_guessOf 23 = .ok (.invokevirtual 178, 3) := by decide +kernel
theorem dX1_guessOf_26 : decode cX1_guessOf 26 = .ok (.ishr, 1) := by decide +kernel
theorem dX1_guessOf_27 : decode cX1_guessOf 27 = .ok (.invokestatic 160, 3) := by decide +kernel
theorem dX1_guessOf_30 : decode cX1_guessOf 30 = .ok (.ireturn, 1) := by decide +kernel
theorem dX1_mayBind_0 : decode cX1_mayBind 0 = .ok (.iload_n 1, 1) := by decide +kernel
theorem dX1_mayBind_1 : decode cX1_mayBind 1 = .ok (.invokestatic 128, 3) := by decide +kernel
theorem dX1_mayBind_4 : decode cX1_mayBind 4 = .ok (.istore_n 3, 1) := by decide +kernel
theorem dX1_mayBind_5 : decode cX1_mayBind 5 = .ok (.aload_n 0, 1) := by decide +kernel
theorem dX1_mayBind_6 : decode cX1_mayBind 6 = .ok (.getfield 27, 3) := by decide +kernel
theorem dX1_mayBind_9 : decode cX1_mayBind 9 = .ok (.getfield 80, 3) := by decide +kernel
theorem dX1_mayBind_12 : decode cX1_mayBind 12 = .ok (.aload_n 0, 1) := by decide +kernel
theorem dX1_mayBind_13 : decode cX1_mayBind 13 = .ok (.getfield 27, 3) := by decide +kernel
theorem dX1_mayBind_16 : decode cX1_mayBind 16 = .ok (.getfield 172, 3) := by decide +kernel
theorem dX1_mayBind_19 : decode cX1_mayBind 19 = .ok (.iload_n 2, 1) := by decide +kernel
theorem dX1_mayBind_20 : decode cX1_mayBind 20 = .ok (.iconst 1, 1) := by decide +kernel
theorem dX1_mayBind_21 : decode cX1_mayBind 21 = .ok (.ixor, 1) := by decide +kernel
theorem dX1_mayBind_22 : decode cX1_mayBind 22 = .ok (.iaload, 1) := by decide +kernel
theorem dX1_mayBind_23 : decode cX1_mayBind 23 = .ok (.iaload, 1) := by decide +kernel
theorem dX1_mayBind_24 : decode cX1_mayBind 24 = .ok (.istore 4, 2) := by decide +kernel
theorem dX1_mayBind_26 : decode cX1_mayBind 26 = .ok (.iload_n 3, 1) := by decide +kernel
theorem dX1_mayBind_27 : decode cX1_mayBind 27 = .ok (.aload_n 0, 1) := by decide +kernel
theorem dX1_mayBind_28 : decode cX1_mayBind 28 = .ok (.getfield 27, 3) := by decide +kernel
theorem dX1_mayBind_31 : decode cX1_mayBind 31 = .ok (.getfield 134, 3) := by decide +kernel
theorem dX1_mayBind_34 : decode cX1_mayBind 34 = .ok (.iload_n 2, 1) := by decide +kernel
theorem dX1_mayBind_35 : decode cX1_mayBind 35 = .ok (.iaload, 1) := by decide +kernel
theorem dX1_mayBind_36 : decode cX1_mayBind 36 = .ok (.iconst 0, 1) := by decide +kernel
theorem dX1_mayBind_37 : decode cX1_mayBind 37 = .ok (.invokestatic 181, 3) := by decide +kernel
theorem dX1_mayBind_40 : decode cX1_mayBind 40 = .ok (.ifCond .eq 24, 3) := by decide +kernel
theorem dX1_mayBind_43 : decode cX1_mayBind 43 = .ok (.aload_n 0, 1) := by decide +kernel
theorem dX1_mayBind_44 : decode cX1_mayBind 44 = .ok (.getfield 15, 3) := by decide +kernel
theorem dX1_mayBind_47 : decode cX1_mayBind 47 = .ok (.getfield 185, 3) := by decide +kernel
theorem dX1_mayBind_50 : decode cX1_mayBind 50 = .ok (.iload 4, 2) := by decide +kernel
theorem dX1_mayBind_52 : decode cX1_mayBind 52 = .ok (.iconst 3, 1) := by decide +kernel
theorem dX1_mayBind_53 : decode cX1_mayBind 53 = .ok (.imul, 1) := by decide +kernel
theorem dX1_mayBind_54 : decode cX1_mayBind 54 = .ok (.iload_n 3, 1) := by decide +kernel
theorem dX1_mayBind_55 : decode cX1_mayBind 55 = .ok (.iadd, 1) := by decide +kernel
theorem dX1_mayBind_56 : decode cX1_mayBind 56 = .ok (.baload, 1) := by decide +kernel
theorem dX1_mayBind_57 : decode cX1_mayBind 57 = .ok (.ifCond .ne 7, 3) := by decide +kernel
theorem dX1_mayBind_60 : decode cX1_mayBind 60 = .ok (.iconst 1, 1) := by decide +kernel
theorem dX1_mayBind_61 : decode cX1_mayBind 61 = .ok (.goto 4, 3) := by decide +kernel
theorem dX1_mayBind_64 : decode cX1_mayBind 64 = .ok (.iconst 0, 1) := by decide +kernel
theorem dX1_mayBind_65 : decode cX1_mayBind 65 = .ok (.ireturn, 1) := by decide +kernel
theorem dX1_bindCost_0 : decode cX1_bindCost 0 = .ok (.aload_n 0, 1) := by decide +kernel
theorem dX1_bindCost_1 : decode cX1_bindCost 1 = .ok (.getfield 191, 3) := by decide +kernel
theorem dX1_bindCost_4 : decode cX1_bindCost 4 = .ok (.iconst 4, 1) := by decide +kernel
theorem dX1_bindCost_5 : decode cX1_bindCost 5 = .ok (.iadd, 1) := by decide +kernel
theorem dX1_bindCost_6 : decode cX1_bindCost 6 = .ok (.iconst 1, 1) := by decide +kernel
theorem dX1_bindCost_7 : decode cX1_bindCost 7 = .ok (.isub, 1) := by decide +kernel
theorem dX1_bindCost_8 : decode cX1_bindCost 8 = .ok (.iconst 4, 1) := by decide +kernel
theorem dX1_bindCost_9 : decode cX1_bindCost 9 = .ok (.idiv, 1) := by decide +kernel
theorem dX1_bindCost_10 : decode cX1_bindCost 10 = .ok (.istore_n 2, 1) := by decide +kernel
theorem dX1_bindCost_11 : decode cX1_bindCost 11 = .ok (.iload_n 2, 1) := by decide +kernel
theorem dX1_bindCost_12 : decode cX1_bindCost 12 = .ok (.getstatic 194, 3) := by decide +kernel
theorem dX1_bindCost_15 : decode cX1_bindCost 15 = .ok (.iload_n 1, 1) := by decide +kernel
theorem dX1_bindCost_16 : decode cX1_bindCost 16 = .ok (.iaload, 1) := by decide +kernel
theorem dX1_bindCost_17 : decode cX1_bindCost 17 = .ok (.imul, 1) := by decide +kernel
theorem dX1_bindCost_18 : decode cX1_bindCost 18 = .ok (.aload_n 0, 1) := by decide +kernel
theorem dX1_bindCost_19 : decode cX1_bindCost 19 = .ok (.getfield 191, 3) := by decide +kernel
theorem dX1_bindCost_22 : decode cX1_bindCost 22 = .ok (.getstatic 197, 3) := by decide +kernel
theorem dX1_bindCost_25 : decode cX1_bindCost 25 = .ok (.iload_n 1, 1) := by decide +kernel
theorem dX1_bindCost_26 : decode cX1_bindCost 26 = .ok (.iaload, 1) := by decide +kernel
theorem dX1_bindCost_27 : decode cX1_bindCost 27 = .ok (.imul, 1) := by decide +kernel
theorem dX1_bindCost_28 : decode cX1_bindCost 28 = .ok (.iadd, 1) := by decide +kernel
theorem dX1_bindCost_29 : decode cX1_bindCost 29 = .ok (.ireturn, 1) := by decide +kernel
theorem dX1_scanCost_0 : decode cX1_scanCost 0 = .ok (.aload_n 0, 1) := by decide +kernel
theorem dX1_scanCost_1 : decode cX1_scanCost 1 = .ok (.getfield 27, 3) := by decide +kernel
theorem dX1_scanCost_4 : decode cX1_scanCost 4 = .ok (.getfield 80, 3) := by decide +kernel
theorem dX1_scanCost_7 : decode cX1_scanCost 7 = .ok (.iload_n 1, 1) := by decide +kernel
theorem dX1_scanCost_8 : decode cX1_scanCost 8 = .ok (.iaload, 1) := by decide +kernel
theorem dX1_scanCost_9 : decode cX1_scanCost 9 = .ok (.invokestatic 128, 3) := by decide +kernel
theorem dX1_scanCost_12 : decode cX1_scanCost 12 = .ok (.istore_n 2, 1) := by decide +kernel
theorem dX1_scanCost_13 : decode cX1_scanCost 13 = .ok (.getstatic 194, 3) := by decide +kernel
theorem dX1_scanCost_16 : decode cX1_scanCost 16 = .ok (.iload_n 2, 1) := by decide +kernel
theorem dX1_scanCost_17 : decode cX1_scanCost 17 = .ok (.iaload, 1) := by decide +kernel
theorem dX1_scanCost_18 : decode cX1_scanCost 18 = .ok (.aload_n 0, 1) := by decide +kernel
theorem dX1_scanCost_19 : decode cX1_scanCost 19 = .ok (.iload_n 1, 1) := by decide +kernel
theorem dX1_scanCost_20 : decode cX1_scanCost 20 = .ok (.invokevirtual 77, 3) := by decide +kernel
theorem dX1_scanCost_23 : decode cX1_scanCost 23 = .ok (.getstatic 197, 3) := by decide +kernel
theorem dX1_scanCost_26 : decode cX1_scanCost 26 = .ok (.iload_n 2, 1) := by decide +kernel
theorem dX1_scanCost_27 : decode cX1_scanCost 27 = .ok (.iaload, 1) := by decide +kernel
theorem dX1_scanCost_28 : decode cX1_scanCost 28 = .ok (.imul, 1) := by decide +kernel
theorem dX1_scanCost_29 : decode cX1_scanCost 29 = .ok (.iadd, 1) := by decide +kernel
theorem dX1_scanCost_30 : decode cX1_scanCost 30 = .ok (.ireturn, 1) := by decide +kernel
theorem dX1_gatherKeys_0 : decode cX1_gatherKeys 0 = .ok (.aload_n 0, 1) := by decide +kernel
theorem dX1_gatherKeys_1 : decode cX1_gatherKeys 1 = .ok (.getfield 31, 3) := by decide +kernel
theorem dX1_gatherKeys_4 : decode cX1_gatherKeys 4 = .ok (.getfield 88, 3) := by decide +kernel
theorem dX1_gatherKeys_7 : decode cX1_gatherKeys 7 = .ok (.aload_n 0, 1) := by decide +kernel
theorem dX1_gatherKeys_8 : decode cX1_gatherKeys 8 = .ok (.getfield 27, 3) := by decide +kernel
theorem dX1_gatherKeys_11 : decode cX1_gatherKeys 11 = .ok (.getfield 172, 3) := by decide +kernel
theorem dX1_gatherKeys_14 : decode cX1_gatherKeys 14 = .ok (.iload_n 1, 1) := by decide +kernel
theorem dX1_gatherKeys_15 : decode cX1_gatherKeys 15 = .ok (.iaload, 1) := by decide +kernel
theorem dX1_gatherKeys_16 : decode cX1_gatherKeys 16 = .ok (.aaload, 1) := by decide +kernel
theorem dX1_gatherKeys_17 : decode cX1_gatherKeys 17 = .ok (.astore_n 2, 1) := by decide +kernel
theorem dX1_gatherKeys_18 : decode cX1_gatherKeys 18 = .ok (.aload_n 0, 1) := by decide +kernel
theorem dX1_gatherKeys_19 : decode cX1_gatherKeys 19 = .ok (.iconst 0, 1) := by decide +kernel
theorem dX1_gatherKeys_20 : decode cX1_gatherKeys 20 = .ok (.putfield 191, 3) := by decide +kernel
theorem dX1_gatherKeys_23 : decode cX1_gatherKeys 23 = .ok (.iconst 0, 1) := by decide +kernel
theorem dX1_gatherKeys_24 : decode cX1_gatherKeys 24 = .ok (.istore_n 3, 1) := by decide +kernel
theorem dX1_gatherKeys_25 : decode cX1_gatherKeys 25 = .ok (.iload_n 3, 1) := by decide +kernel
theorem dX1_gatherKeys_26 : decode cX1_gatherKeys 26 = .ok (.aload_n 2, 1) := by decide +kernel
theorem dX1_gatherKeys_27 : decode cX1_gatherKeys 27 = .ok (.getfield 200, 3) := by decide +kernel
theorem dX1_gatherKeys_30 : decode cX1_gatherKeys 30 = .ok (.if_icmp .ge 53, 3) := by decide +kernel
theorem dX1_gatherKeys_33 : decode cX1_gatherKeys 33 = .ok (.aload_n 2, 1) := by decide +kernel
theorem dX1_gatherKeys_34 : decode cX1_gatherKeys 34 = .ok (.iload_n 3, 1) := by decide +kernel
theorem dX1_gatherKeys_35 : decode cX1_gatherKeys 35 = .ok (.aload_n 0, 1) := by decide +kernel
theorem dX1_gatherKeys_36 : decode cX1_gatherKeys 36 = .ok (.getfield 27, 3) := by decide +kernel
theorem dX1_gatherKeys_39 : decode cX1_gatherKeys 39 = .ok (.getfield 134, 3) := by decide +kernel
theorem dX1_gatherKeys_42 : decode cX1_gatherKeys 42 = .ok (.iload_n 1, 1) := by decide +kernel
theorem dX1_gatherKeys_43 : decode cX1_gatherKeys 43 = .ok (.iaload, 1) := by decide +kernel
theorem dX1_gatherKeys_44 : decode cX1_gatherKeys 44 = .ok (.invokevirtual 203, 3) := by decide +kernel
theorem dX1_gatherKeys_47 : decode cX1_gatherKeys 47 = .ok (.istore 4, 2) := by decide +kernel
theorem dX1_gatherKeys_49 : decode cX1_gatherKeys 49 = .ok (.iload 4, 2) := by decide +kernel
theorem dX1_gatherKeys_51 : decode cX1_gatherKeys 51 = .ok (.invokestatic 206, 3) := by decide +kernel
theorem dX1_gatherKeys_54 : decode cX1_gatherKeys 54 = .ok (.ifCond .eq 23, 3) := by decide +kernel
theorem dX1_gatherKeys_57 : decode cX1_gatherKeys 57 = .ok (.aload_n 0, 1) := by decide +kernel
theorem dX1_gatherKeys_58 : decode cX1_gatherKeys 58 = .ok (.iload 4, 2) := by decide +kernel
theorem dX1_gatherKeys_60 : decode cX1_gatherKeys 60 = .ok (.iconst 0, 1) := by decide +kernel
theorem dX1_gatherKeys_61 : decode cX1_gatherKeys 61 = .ok (.aload_n 0, 1) := by decide +kernel
theorem dX1_gatherKeys_62 : decode cX1_gatherKeys 62 = .ok (.getfield 191, 3) := by decide +kernel
theorem dX1_gatherKeys_65 : decode cX1_gatherKeys 65 = .ok (.invokevirtual 209, 3) := by decide +kernel
theorem dX1_gatherKeys_68 : decode cX1_gatherKeys 68 = .ok (.ifCond .ne 9, 3) := by decide +kernel
theorem dX1_gatherKeys_71 : decode cX1_gatherKeys 71 = .ok (.aload_n 0, 1) := by decide +kernel
theorem dX1_gatherKeys_72 : decode cX1_gatherKeys 72 = .ok (.iload 4, 2) := by decide +kernel
theorem dX1_gatherKeys_74 : decode cX1_gatherKeys 74 = .ok (.invokevirtual 212, 3) := by decide +kernel
theorem dX1_gatherKeys_77 : decode cX1_gatherKeys 77 = .ok (.iinc 3 1, 3) := by decide +kernel
theorem dX1_gatherKeys_80 : decode cX1_gatherKeys 80 = .ok (.goto (-55), 3) := by decide +kernel
theorem dX1_gatherKeys_83 : decode cX1_gatherKeys 83 = .ok (.return_, 1) := by decide +kernel
theorem dX1_addKey_0 : decode cX1_addKey 0 = .ok (.aload_n 0, 1) := by decide +kernel
theorem dX1_addKey_1 : decode cX1_addKey 1 = .ok (.getfield 191, 3) := by decide +kernel
theorem dX1_addKey_4 : decode cX1_addKey 4 = .ok (.istore_n 2, 1) := by decide +kernel
theorem dX1_addKey_5 : decode cX1_addKey 5 = .ok (.iload_n 2, 1) := by decide +kernel
theorem dX1_addKey_6 : decode cX1_addKey 6 = .ok (.ifCond .le 35, 3) := by decide +kernel
theorem dX1_addKey_9 : decode cX1_addKey 9 = .ok (.aload_n 0, 1) := by decide +kernel
theorem dX1_addKey_10 : decode cX1_addKey 10 = .ok (.getfield 9, 3) := by decide +kernel
theorem dX1_addKey_13 : decode cX1_addKey 13 = .ok (.iload_n 2, 1) := by decide +kernel
theorem dX1_addKey_14 : decode cX1_addKey 14 = .ok (.iconst 1, 1) := by decide +kernel
theorem dX1_addKey_15 : decode cX1_addKey 15 = .ok (.isub, 1) := by decide +kernel
theorem dX1_addKey_16 : decode cX1_addKey 16 = .ok (.iaload, 1) := by decide +kernel
theorem dX1_addKey_17 : decode cX1_addKey 17 = .ok (.iload_n 1, 1) := by decide +kernel
theorem dX1_addKey_18 : decode cX1_addKey 18 = .ok (.if_icmp .le 23, 3) := by decide +kernel
theorem dX1_addKey_21 : decode cX1_addKey 21 = .ok (.aload_n 0, 1) := by decide +kernel
theorem dX1_addKey_22 : decode cX1_addKey 22 = .ok (.getfield 9, 3) := by decide +kernel
theorem dX1_addKey_25 : decode cX1_addKey 25 = .ok (.iload_n 2, 1) := by decide +kernel
theorem dX1_addKey_26 : decode cX1_addKey 26 = .ok (.aload_n 0, 1) := by decide +kernel
theorem dX1_addKey_27 : decode cX1_addKey 27 = .ok (.getfield 9, 3) := by decide +kernel
theorem dX1_addKey_30 : decode cX1_addKey 30 = .ok (.iload_n 2, 1) := by decide +kernel
theorem dX1_addKey_31 : decode cX1_addKey 31 = .ok (.iconst 1, 1) := by decide +kernel
theorem dX1_addKey_32 : decode cX1_addKey 32 = .ok (.isub, 1) := by decide +kernel
theorem dX1_addKey_33 : decode cX1_addKey 33 = .ok (.iaload, 1) := by decide +kernel
theorem dX1_addKey_34 : decode cX1_addKey 34 = .ok (.iastore, 1) := by decide +kernel
theorem dX1_addKey_35 : decode cX1_addKey 35 = .ok (.iinc 2 (-1), 3) := by decide +kernel
theorem dX1_addKey_38 : decode cX1_addKey 38 = .ok (.goto (-33), 3) := by decide +kernel
theorem dX1_addKey_41 : decode cX1_addKey 41 = .ok (.aload_n 0, 1) := by decide +kernel
theorem dX1_addKey_42 : decode cX1_addKey 42 = .ok (.getfield 9, 3) := by decide +kernel
theorem dX1_addKey_45 : decode cX1_addKey 45 = .ok (.iload_n 2, 1) := by decide +kernel
theorem dX1_addKey_46 : decode cX1_addKey 46 = .ok (.iload_n 1, 1) := by decide +kernel
theorem dX1_addKey_47 : decode cX1_addKey 47 = .ok (.iastore, 1) := by decide +kernel
theorem dX1_addKey_48 : decode cX1_addKey 48 = .ok (.aload_n 0, 1) := by decide +kernel
theorem dX1_addKey_49 : decode cX1_addKey 49 = .ok (.dup, 1) := by decide +kernel
theorem dX1_addKey_50 : decode cX1_addKey 50 = .ok (.getfield 191, 3) := by decide +kernel
theorem dX1_addKey_53 : decode cX1_addKey 53 = .ok (.iconst 1, 1) := by decide +kernel
theorem dX1_addKey_54 : decode cX1_addKey 54 = .ok (.iadd, 1) := by decide +kernel
theorem dX1_addKey_55 : decode cX1_addKey 55 = .ok (.putfield 191, 3) := by decide +kernel
theorem dX1_addKey_58 : decode cX1_addKey 58 = .ok (.return_, 1) := by decide +kernel
theorem dX1_isKey_0 : decode cX1_isKey 0 = .ok (.iload_n 2, 1) := by decide +kernel
theorem dX1_isKey_1 : decode cX1_isKey 1 = .ok (.istore 4, 2) := by decide +kernel
theorem dX1_isKey_3 : decode cX1_isKey 3 = .ok (.iload 4, 2) := by decide +kernel
theorem dX1_isKey_5 : decode cX1_isKey 5 = .ok (.iload_n 3, 1) := by decide +kernel
theorem dX1_isKey_6 : decode cX1_isKey 6 = .ok (.if_icmp .ge 22, 3) := by decide +kernel
theorem dX1_isKey_9 : decode cX1_isKey 9 = .ok (.aload_n 0, 1) := by decide +kernel
theorem dX1_isKey_10 : decode cX1_isKey 10 = .ok (.getfield 9, 3) := by decide +kernel
theorem dX1_isKey_13 : decode cX1_isKey 13 = .ok (.iload 4, 2) := by decide +kernel
theorem dX1_isKey_15 : decode cX1_isKey 15 = .ok (.iaload, 1) := by decide +kernel
theorem dX1_isKey_16 : decode cX1_isKey 16 = .ok (.iload_n 1, 1) := by decide +kernel
theorem dX1_isKey_17 : decode cX1_isKey 17 = .ok (.if_icmp .ne 5, 3) := by decide +kernel
theorem dX1_isKey_20 : decode cX1_isKey 20 = .ok (.iconst 1, 1) := by decide +kernel
theorem dX1_isKey_21 : decode cX1_isKey 21 = .ok (.ireturn, 1) := by decide +kernel
theorem dX1_isKey_22 : decode cX1_isKey 22 = .ok (.iinc 4 1, 3) := by decide +kernel
theorem dX1_isKey_25 : decode cX1_isKey 25 = .ok (.goto (-22), 3) := by decide +kernel
theorem dX1_isKey_28 : decode cX1_isKey 28 = .ok (.iconst 0, 1) := by decide +kernel
theorem dX1_isKey_29 : decode cX1_isKey 29 = .ok (.ireturn, 1) := by decide +kernel
theorem dX1_bind_0 : decode cX1_bind 0 = .ok (.aload_n 0, 1) := by decide +kernel
theorem dX1_bind_1 : decode cX1_bind 1 = .ok (.getfield 27, 3) := by decide +kernel
theorem dX1_bind_4 : decode cX1_bind 4 = .ok (.getfield 80, 3) := by decide +kernel
theorem dX1_bind_7 : decode cX1_bind 7 = .ok (.iload_n 1, 1) := by decide +kernel
theorem dX1_bind_8 : decode cX1_bind 8 = .ok (.iaload, 1) := by decide +kernel
theorem dX1_bind_9 : decode cX1_bind 9 = .ok (.invokestatic 128, 3) := by decide +kernel
theorem dX1_bind_12 : decode cX1_bind 12 = .ok (.istore 4, 2) := by decide +kernel
theorem dX1_bind_14 : decode cX1_bind 14 = .ok (.iconst 0, 1) := by decide +kernel
theorem dX1_bind_15 : decode cX1_bind 15 = .ok (.istore 5, 2) := by decide +kernel
theorem dX1_bind_17 : decode cX1_bind 17 = .ok (.iload 5, 2) := by decide +kernel
theorem dX1_bind_19 : decode cX1_bind 19 = .ok (.aload_n 0, 1) := by decide +kernel
theorem dX1_bind_20 : decode cX1_bind 20 = .ok (.getfield 191, 3) := by decide +kernel
theorem dX1_bind_23 : decode cX1_bind 23 = .ok (.if_icmp .ge 71, 3) := by decide +kernel
theorem dX1_bind_26 : decode cX1_bind 26 = .ok (.aload_n 0, 1) := by decide +kernel
theorem dX1_bind_27 : decode cX1_bind 27 = .ok (.iload 4, 2) := by decide +kernel
theorem dX1_bind_29 : decode cX1_bind 29 = .ok (.invokevirtual 215, 3) := by decide +kernel
theorem dX1_bind_32 : decode cX1_bind 32 = .ok (.ifCond .ne 10, 3) := by decide +kernel
theorem dX1_bind_35 : decode cX1_bind 35 = .ok (.aload_n 0, 1) := by decide +kernel
theorem dX1_bind_36 : decode cX1_bind 36 = .ok (.iload_n 1, 1) := by decide +kernel
theorem dX1_bind_37 : decode cX1_bind 37 = .ok (.invokevirtual 218, 3) := by decide +kernel
theorem dX1_bind_40 : decode cX1_bind 40 = .ok (.iconst 1, 1) := by decide +kernel
theorem dX1_bind_41 : decode cX1_bind 41 = .ok (.ireturn, 1) := by decide +kernel
theorem dX1_bind_42 : decode cX1_bind 42 = .ok (.iload 5, 2) := by decide +kernel
theorem dX1_bind_44 : decode cX1_bind 44 = .ok (.iconst 4, 1) := by decide +kernel
theorem dX1_bind_45 : decode cX1_bind 45 = .ok (.iadd, 1) := by decide +kernel
theorem dX1_bind_46 : decode cX1_bind 46 = .ok (.aload_n 0, 1) := by decide +kernel
theorem dX1_bind_47 : decode cX1_bind 47 = .ok (.getfield 191, 3) := by decide +kernel
theorem dX1_bind_50 : decode cX1_bind 50 = .ok (.invokestatic 166, 3) := by decide +kernel
theorem dX1_bind_53 : decode cX1_bind 53 = .ok (.istore 6, 2) := by decide +kernel
theorem dX1_bind_55 : decode cX1_bind 55 = .ok (.aload_n 0, 1) := by decide +kernel
theorem dX1_bind_56 : decode cX1_bind 56 = .ok (.iload_n 1, 1) := by decide +kernel
theorem dX1_bind_57 : decode cX1_bind 57 = .ok (.iload_n 2, 1) := by decide +kernel
theorem dX1_bind_58 : decode cX1_bind 58 = .ok (.iload 5, 2) := by decide +kernel
theorem dX1_bind_60 : decode cX1_bind 60 = .ok (.iload 6, 2) := by decide +kernel
theorem dX1_bind_62 : decode cX1_bind 62 = .ok (.invokevirtual 221, 3) := by decide +kernel
theorem dX1_bind_65 : decode cX1_bind 65 = .ok (.pop, 1) := by decide +kernel
theorem dX1_bind_66 : decode cX1_bind 66 = .ok (.iload 6, 2) := by decide +kernel
theorem dX1_bind_68 : decode cX1_bind 68 = .ok (.aload_n 0, 1) := by decide +kernel
theorem dX1_bind_69 : decode cX1_bind 69 = .ok (.getfield 191, 3) := by decide +kernel
theorem dX1_bind_72 : decode cX1_bind 72 = .ok (.if_icmp .ge 16, 3) := by decide +kernel
theorem dX1_bind_75 : decode cX1_bind 75 = .ok (.aload_n 0, 1) := by decide +kernel
theorem dX1_bind_76 : decode cX1_bind 76 = .ok (.getfield 31, 3) := by decide +kernel
theorem dX1_bind_79 : decode cX1_bind 79 = .ok (.getfield 137, 3) := by decide +kernel
theorem dX1_bind_82 : decode cX1_bind 82 = .ok (.iload_n 3, 1) := by decide +kernel
theorem dX1_bind_83 : decode cX1_bind 83 = .ok (.if_icmp .lt 5, 3) := by decide +kernel
theorem dX1_bind_86 : decode cX1_bind 86 = .ok (.iconst 2, 1) := by decide +kernel
theorem dX1_bind_87 : decode cX1_bind 87 = .ok (.ireturn, 1) := by decide +kernel
theorem dX1_bind_88 : decode cX1_bind 88 = .ok (.iinc 5 4, 3) := by decide +kernel
theorem dX1_bind_91 : decode cX1_bind 91 = .ok (.goto (-74), 3) := by decide +kernel
theorem dX1_bind_94 : decode cX1_bind 94 = .ok (.iconst 1, 1) := by decide +kernel
theorem dX1_bind_95 : decode cX1_bind 95 = .ok (.ireturn, 1) := by decide +kernel
theorem dX1_scan_0 : decode cX1_scan 0 = .ok (.aload_n 0, 1) := by decide +kernel
theorem dX1_scan_1 : decode cX1_scan 1 = .ok (.getfield 27, 3) := by decide +kernel
theorem dX1_scan_4 : decode cX1_scan 4 = .ok (.getfield 80, 3) := by decide +kernel
theorem dX1_scan_7 : decode cX1_scan 7 = .ok (.iload_n 1, 1) := by decide +kernel
theorem dX1_scan_8 : decode cX1_scan 8 = .ok (.iaload, 1) := by decide +kernel
theorem dX1_scan_9 : decode cX1_scan 9 = .ok (.istore_n 2, 1) := by decide +kernel
theorem dX1_scan_10 : decode cX1_scan 10 = .ok (.aload_n 0, 1) := by decide +kernel
theorem dX1_scan_11 : decode cX1_scan 11 = .ok (.getfield 31, 3) := by decide +kernel
theorem dX1_scan_14 : decode cX1_scan 14 = .ok (.getfield 88, 3) := by decide +kernel
theorem dX1_scan_17 : decode cX1_scan 17 = .ok (.iload_n 1, 1) := by decide +kernel
theorem dX1_scan_18 : decode cX1_scan 18 = .ok (.aaload, 1) := by decide +kernel
theorem dX1_scan_19 : decode cX1_scan 19 = .ok (.iconst 0, 1) := by decide +kernel
theorem dX1_scan_20 : decode cX1_scan 20 = .ok (.putfield 200, 3) := by decide +kernel
theorem dX1_scan_23 : decode cX1_scan 23 = .ok (.aload_n 0, 1) := by decide +kernel
theorem dX1_scan_24 : decode cX1_scan 24 = .ok (.getfield 31, 3) := by decide +kernel
theorem dX1_scan_27 : decode cX1_scan 27 = .ok (.dup, 1) := by decide +kernel
theorem dX1_scan_28 : decode cX1_scan 28 = .ok (.getfield 57, 3) := by decide +kernel
theorem dX1_scan_31 : decode cX1_scan 31 = .ok (.iconst 1, 1) := by decide +kernel
theorem dX1_scan_32 : decode cX1_scan 32 = .ok (.iload_n 1, 1) := by decide +kernel
theorem dX1_scan_33 : decode cX1_scan 33 = .ok (.ishl, 1) := by decide +kernel
theorem dX1_scan_34 : decode cX1_scan 34 = .ok (.iconst (-1), 1) := by decide +kernel
theorem dX1_scan_35 : decode cX1_scan 35 = .ok (.ixor, 1) := by decide +kernel
theorem dX1_scan_36 : decode cX1_scan 36 = .ok (.iand, 1) := by decide +kernel
theorem dX1_scan_37 : decode cX1_scan 37 = .ok (.putfield 57, 3) := by decide +kernel
theorem dX1_scan_40 : decode cX1_scan 40 = .ok (.aload_n 0, 1) := by decide +kernel
theorem dX1_scan_41 : decode cX1_scan 41 = .ok (.iload_n 2, 1) := by decide +kernel
theorem dX1_scan_42 : decode cX1_scan 42 = .ok (.invokestatic 128, 3) := by decide +kernel
theorem dX1_scan_45 : decode cX1_scan 45 = .ok (.invokevirtual 215, 3) := by decide +kernel
theorem dX1_scan_48 : decode cX1_scan 48 = .ok (.ifCond .ne 11, 3) := by decide +kernel
theorem dX1_scan_51 : decode cX1_scan 51 = .ok (.aload_n 0, 1) := by decide +kernel
theorem dX1_scan_52 : decode cX1_scan 52 = .ok (.iload_n 1, 1) := by decide +kernel
theorem dX1_scan_53 : decode cX1_scan 53 = .ok (.invokevirtual 218, 3) := by decide +kernel
theorem dX1_scan_56 : decode cX1_scan 56 = .ok (.goto 76, 3) := by decide +kernel
theorem dX1_scan_59 : decode cX1_scan 59 = .ok (.aload_n 0, 1) := by decide +kernel
theorem dX1_scan_60 : decode cX1_scan 60 = .ok (.iload_n 1, 1) := by decide +kernel
theorem dX1_scan_61 : decode cX1_scan 61 = .ok (.iconst (-1), 1) := by decide +kernel
theorem dX1_scan_62 : decode cX1_scan 62 = .ok (.iconst 0, 1) := by decide +kernel
theorem dX1_scan_63 : decode cX1_scan 63 = .ok (.iconst 0, 1) := by decide +kernel
theorem dX1_scan_64 : decode cX1_scan 64 = .ok (.invokevirtual 221, 3) := by decide +kernel
theorem dX1_scan_67 : decode cX1_scan 67 = .ok (.ifCond .eq 65, 3) := by decide +kernel
theorem dX1_scan_70 : decode cX1_scan 70 = .ok (.aload_n 0, 1) := by decide +kernel
theorem dX1_scan_71 : decode cX1_scan 71 = .ok (.getfield 27, 3) := by decide +kernel
theorem dX1_scan_74 : decode cX1_scan 74 = .ok (.iload_n 1, 1) := by decide +kernel
theorem dX1_scan_75 : decode cX1_scan 75 = .ok (.invokevirtual 178, 3) := by decide +kernel
theorem dX1_scan_78 : decode cX1_scan 78 = .ok (.ifCond .ne 24, 3) := by decide +kernel
theorem dX1_scan_81 : decode cX1_scan 81 = .ok (.aload_n 0, 1) := by decide +kernel
theorem dX1_scan_82 : decode cX1_scan 82 = .ok (.getfield 19, 3) := by decide +kernel
theorem dX1_scan_85 : decode cX1_scan 85 = .ok (.getfield 175, 3) := by decide +kernel
theorem dX1_scan_88 : decode cX1_scan 88 = .ok (.iload_n 2, 1) := by decide +kernel
theorem dX1_scan_89 : decode cX1_scan 89 = .ok (.aload_n 0, 1) := by decide +kernel
theorem dX1_scan_90 : decode cX1_scan 90 = .ok (.getfield 31, 3) := by decide +kernel
theorem dX1_scan_93 : decode cX1_scan 93 = .ok (.getfield 88, 3) := by decide +kernel
theorem dX1_scan_96 : decode cX1_scan 96 = .ok (.iload_n 1, 1) := by decide +kernel
theorem dX1_scan_97 : decode cX1_scan 97 = .ok (.aaload, 1) := by decide +kernel
theorem dX1_scan_98 : decode cX1_scan 98 = .ok (.getfield 200, 3) := by decide +kernel
theorem dX1_scan_101 : decode cX1_scan 101 = .ok (.iastore, 1) := by decide +kernel
theorem dX1_scan_102 : decode cX1_scan 102 = .ok (.aload_n 0, 1) := by decide +kernel
theorem dX1_scan_103 : decode cX1_scan 103 = .ok (.getfield 23, 3) := by decide +kernel
theorem dX1_scan_106 : decode cX1_scan 106 = .ok (.aload_n 0, 1) := by decide +kernel
theorem dX1_scan_107 : decode cX1_scan 107 = .ok (.getfield 27, 3) := by decide +kernel
theorem dX1_scan_110 : decode cX1_scan 110 = .ok (.iload_n 1, 1) := by decide +kernel
theorem dX1_scan_111 : decode cX1_scan 111 = .ok (.aload_n 0, 1) := by decide +kernel
theorem dX1_scan_112 : decode cX1_scan 112 = .ok (.getfield 31, 3) := by decide +kernel
theorem dX1_scan_115 : decode cX1_scan 115 = .ok (.getfield 88, 3) := by decide +kernel
theorem dX1_scan_118 : decode cX1_scan 118 = .ok (.iload_n 1, 1) := by decide +kernel
theorem dX1_scan_119 : decode cX1_scan 119 = .ok (.aaload, 1) := by decide +kernel
theorem dX1_scan_120 : decode cX1_scan 120 = .ok (.aload_n 0, 1) := by decide +kernel
theorem dX1_scan_121 : decode cX1_scan 121 = .ok (.getfield 19, 3) := by decide +kernel
theorem dX1_scan_124 : decode cX1_scan 124 = .ok (.getfield 112, 3) := by decide +kernel
theorem dX1_scan_127 : decode cX1_scan 127 = .ok (.iload_n 2, 1) := by decide +kernel
theorem dX1_scan_128 : decode cX1_scan 128 = .ok (.iaload, 1) := by decide +kernel
theorem dX1_scan_129 : decode cX1_scan 129 = .ok (.invokevirtual 225, 3) := by decide +kernel
theorem dX1_scan_132 : decode cX1_scan 132 = .ok (.return_, 1) := by decide +kernel
theorem dX1_open_0 : decode cX1_open 0 = .ok (.aload_n 0, 1) := by decide +kernel
theorem dX1_open_1 : decode cX1_open 1 = .ok (.getfield 31, 3) := by decide +kernel
theorem dX1_open_4 : decode cX1_open 4 = .ok (.dup, 1) := by decide +kernel
theorem dX1_open_5 : decode cX1_open 5 = .ok (.getfield 57, 3) := by decide +kernel
theorem dX1_open_8 : decode cX1_open 8 = .ok (.iconst 1, 1) := by decide +kernel
theorem dX1_open_9 : decode cX1_open 9 = .ok (.iload_n 1, 1) := by decide +kernel
theorem dX1_open_10 : decode cX1_open 10 = .ok (.ishl, 1) := by decide +kernel
theorem dX1_open_11 : decode cX1_open 11 = .ok (.ior, 1) := by decide +kernel
theorem dX1_open_12 : decode cX1_open 12 = .ok (.putfield 57, 3) := by decide +kernel
theorem dX1_open_15 : decode cX1_open 15 = .ok (.return_, 1) := by decide +kernel
theorem dX1_request_0 : decode cX1_request 0 = .ok (.iconst 0, 1) := by decide +kernel
theorem dX1_request_1 : decode cX1_request 1 = .ok (.istore_n 2, 1) := by decide +kernel
theorem dX1_request_2 : decode cX1_request 2 = .ok (.iload_n 2, 1) := by decide +kernel
theorem dX1_request_3 : decode cX1_request 3 = .ok (.iconst 3, 1) := by decide +kernel
theorem dX1_request_4 : decode cX1_request 4 = .ok (.if_icmp .ge 79, 3) := by decide +kernel
theorem dX1_request_7 : decode cX1_request 7 = .ok (.aload_n 0, 1) := by decide +kernel
theorem dX1_request_8 : decode cX1_request 8 = .ok (.getfield 15, 3) := by decide +kernel
theorem dX1_request_11 : decode cX1_request 11 = .ok (.iload_n 1, 1) := by decide +kernel
theorem dX1_request_12 : decode cX1_request 12 = .ok (.invokevirtual 229, 3) := by decide +kernel
theorem dX1_request_15 : decode cX1_request 15 = .ok (.aload_n 0, 1) := by decide +kernel
theorem dX1_request_16 : decode cX1_request 16 = .ok (.getfield 15, 3) := by decide +kernel
theorem dX1_request_19 : decode cX1_request 19 = .ok (.getfield 232, 3) := by decide +kernel
theorem dX1_request_22 : decode cX1_request 22 = .ok (.getfield 236, 3) := by decide +kernel
theorem dX1_request_25 : decode cX1_request 25 = .ok (.aload_n 0, 1) := by decide +kernel
theorem dX1_request_26 : decode cX1_request 26 = .ok (.getfield 39, 3) := by decide +kernel
theorem dX1_request_29 : decode cX1_request 29 = .ok (.if_icmp .le 5, 3) := by decide +kernel
theorem dX1_request_32 : decode cX1_request 32 = .ok (.iconst 0, 1) := by decide +kernel
theorem dX1_request_33 : decode cX1_request 33 = .ok (.ireturn, 1) := by decide +kernel
theorem dX1_request_34 : decode cX1_request 34 = .ok (.aload_n 0, 1) := by decide +kernel
theorem dX1_request_35 : decode cX1_request 35 = .ok (.getfield 31, 3) := by decide +kernel
theorem dX1_request_38 : decode cX1_request 38 = .ok (.dup, 1) := by decide +kernel
theorem dX1_request_39 : decode cX1_request 39 = .ok (.getfield 241, 3) := by decide +kernel
theorem dX1_request_42 : decode cX1_request 42 = .ok (.iconst 1, 1) := by decide +kernel
theorem dX1_request_43 : decode cX1_request 43 = .ok (.iadd, 1) := by decide +kernel
theorem dX1_request_44 : decode cX1_request 44 = .ok (.putfield 241, 3) := by decide +kernel
theorem dX1_request_47 : decode cX1_request 47 = .ok (.aload_n 0, 1) := by decide +kernel
theorem dX1_request_48 : decode cX1_request 48 = .ok (.getfield 31, 3) := by decide +kernel
theorem dX1_request_51 : decode cX1_request 51 = .ok (.dup, 1) := by decide +kernel
theorem dX1_request_52 : decode cX1_request 52 = .ok (.getfield 137, 3) := by decide +kernel
theorem dX1_request_55 : decode cX1_request 55 = .ok (.getstatic 194, 3) := by decide +kernel
theorem dX1_request_58 : decode cX1_request 58 = .ok (.iload_n 1, 1) := by decide +kernel
theorem dX1_request_59 : decode cX1_request 59 = .ok (.iaload, 1) := by decide +kernel
theorem dX1_request_60 : decode cX1_request 60 = .ok (.iadd, 1) := by decide +kernel
theorem dX1_request_61 : decode cX1_request 61 = .ok (.putfield 137, 3) := by decide +kernel
theorem dX1_request_64 : decode cX1_request 64 = .ok (.aload_n 0, 1) := by decide +kernel
theorem dX1_request_65 : decode cX1_request 65 = .ok (.getfield 15, 3) := by decide +kernel
theorem dX1_request_68 : decode cX1_request 68 = .ok (.iload_n 1, 1) := by decide +kernel
theorem dX1_request_69 : decode cX1_request 69 = .ok (.invokevirtual 244, 3) := by decide +kernel
theorem dX1_request_72 : decode cX1_request 72 = .ok (.ifCond .eq 5, 3) := by decide +kernel
theorem dX1_request_75 : decode cX1_request 75 = .ok (.iconst 1, 1) := by decide +kernel
theorem dX1_request_76 : decode cX1_request 76 = .ok (.ireturn, 1) := by decide +kernel
theorem dX1_request_77 : decode cX1_request 77 = .ok (.iinc 2 1, 3) := by decide +kernel
theorem dX1_request_80 : decode cX1_request 80 = .ok (.goto (-78), 3) := by decide +kernel
theorem dX1_request_83 : decode cX1_request 83 = .ok (.iconst 0, 1) := by decide +kernel
theorem dX1_request_84 : decode cX1_request 84 = .ok (.ireturn, 1) := by decide +kernel
theorem dX1_receive_0 : decode cX1_receive 0 = .ok (.aload_n 0, 1) := by decide +kernel
theorem dX1_receive_1 : decode cX1_receive 1 = .ok (.getfield 27, 3) := by decide +kernel
theorem dX1_receive_4 : decode cX1_receive 4 = .ok (.getfield 80, 3) := by decide +kernel
theorem dX1_receive_7 : decode cX1_receive 7 = .ok (.iload_n 1, 1) := by decide +kernel
theorem dX1_receive_8 : decode cX1_receive 8 = .ok (.iaload, 1) := by decide +kernel
theorem dX1_receive_9 : decode cX1_receive 9 = .ok (.istore 5, 2) := by decide +kernel
theorem dX1_receive_11 : decode cX1_receive 11 = .ok (.iload 5, 2) := by decide +kernel
theorem dX1_receive_13 : decode cX1_receive 13 = .ok (.invokestatic 128, 3) := by decide +kernel
theorem dX1_receive_16 : decode cX1_receive 16 = .ok (.istore 6, 2) := by decide +kernel
theorem dX1_receive_18 : decode cX1_receive 18 = .ok (.aload_n 0, 1) := by decide +kernel
theorem dX1_receive_19 : decode cX1_receive 19 = .ok (.getfield 19, 3) := by decide +kernel
theorem dX1_receive_22 : decode cX1_receive 22 = .ok (.getfield 247, 3) := by decide +kernel
theorem dX1_receive_25 : decode cX1_receive 25 = .ok (.iload 5, 2) := by decide +kernel
theorem dX1_receive_27 : decode cX1_receive 27 = .ok (.aaload, 1) := by decide +kernel
theorem dX1_receive_28 : decode cX1_receive 28 = .ok (.astore 7, 2) := by decide +kernel
theorem dX1_receive_30 : decode cX1_receive 30 = .ok (.iconst 0, 1) := by decide +kernel
theorem dX1_receive_31 : decode cX1_receive 31 = .ok (.istore 8, 2) := by decide +kernel
theorem dX1_receive_33 : decode cX1_receive 33 = .ok (.iconst 0, 1) := by decide +kernel
theorem dX1_receive_34 : decode cX1_receive 34 = .ok (.istore 9, 2) := by decide +kernel
theorem dX1_receive_36 : decode cX1_receive 36 = .ok (.iload 9, 2) := by decide +kernel
theorem dX1_receive_38 : decode cX1_receive 38 = .ok (.aload 7, 2) := by decide +kernel
theorem dX1_receive_40 : decode cX1_receive 40 = .ok (.getfield 200, 3) := by decide +kernel
theorem dX1_receive_43 : decode cX1_receive 43 = .ok (.if_icmp .ge 123, 3) := by decide +kernel
theorem dX1_receive_46 : decode cX1_receive 46 = .ok (.aload_n 0, 1) := by decide +kernel
theorem dX1_receive_47 : decode cX1_receive 47 = .ok (.getfield 27, 3) := by decide +kernel
theorem dX1_receive_50 : decode cX1_receive 50 = .ok (.iload_n 1, 1) := by decide +kernel
theorem dX1_receive_51 : decode cX1_receive 51 = .ok (.aload 7, 2) := by decide +kernel
theorem dX1_receive_53 : decode cX1_receive 53 = .ok (.iload 9, 2) := by decide +kernel
theorem dX1_receive_55 : decode cX1_receive 55 = .ok (.invokevirtual 248, 3) := by decide +kernel
theorem dX1_receive_58 : decode cX1_receive 58 = .ok (.ifCond .eq 102, 3) := by decide +kernel
theorem dX1_receive_61 : decode cX1_receive 61 = .ok (.iload_n 2, 1) := by decide +kernel
theorem dX1_receive_62 : decode cX1_receive 62 = .ok (.iconst (-1), 1) := by decide +kernel
theorem dX1_receive_63 : decode cX1_receive 63 = .ok (.if_icmp .eq 24, 3) := by decide +kernel
theorem dX1_receive_66 : decode cX1_receive 66 = .ok (.aload_n 0, 1) := by decide +kernel
theorem dX1_receive_67 : decode cX1_receive 67 = .ok (.aload 7, 2) := by decide +kernel
theorem dX1_receive_69 : decode cX1_receive 69 = .ok (.iload 9, 2) := by decide +kernel
theorem dX1_receive_71 : decode cX1_receive 71 = .ok (.iload_n 2, 1) := by decide +kernel
theorem dX1_receive_72 : decode cX1_receive 72 = .ok (.invokevirtual 203, 3) := by decide +kernel
theorem dX1_receive_75 : decode cX1_receive 75 = .ok (.iload_n 3, 1) := by decide +kernel
theorem dX1_receive_76 : decode cX1_receive 76 = .ok (.iload 4, 2) := by decide +kernel
theorem dX1_receive_78 : decode cX1_receive 78 = .ok (.invokevirtual 209, 3) := by decide +kernel
theorem dX1_receive_81 : decode cX1_receive 81 = .ok (.ifCond .ne 6, 3) := by decide +kernel
theorem dX1_receive_84 : decode cX1_receive 84 = .ok (.goto 76, 3) := by decide +kernel
theorem dX1_receive_87 : decode cX1_receive 87 = .ok (.iload 8, 2) := by decide +kernel
theorem dX1_receive_89 : decode cX1_receive 89 = .ok (.aload_n 0, 1) := by decide +kernel
theorem dX1_receive_90 : decode cX1_receive 90 = .ok (.getfield 15, 3) := by decide +kernel
theorem dX1_receive_93 : decode cX1_receive 93 = .ok (.getfield 252, 3) := by decide +kernel
theorem dX1_receive_96 : decode cX1_receive 96 = .ok (.iload 6, 2) := by decide +kernel
theorem dX1_receive_98 : decode cX1_receive 98 = .ok (.iaload, 1) := by decide +kernel
theorem dX1_receive_99 : decode cX1_receive 99 = .ok (.if_icmp .lt 11, 3) := by decide +kernel
theorem dX1_receive_102 : decode cX1_receive 102 = .ok (.aload_n 0, 1) := by decide +kernel
theorem dX1_receive_103 : decode cX1_receive 103 = .ok (.iload_n 1, 1) := by decide +kernel
theorem dX1_receive_104 : decode cX1_receive 104 = .ok (.invokevirtual 218, 3) := by decide +kernel
theorem dX1_receive_107 : decode cX1_receive 107 = .ok (.goto 59, 3) := by decide +kernel
theorem dX1_receive_110 : decode cX1_receive 110 = .ok (.aload_n 0, 1) := by decide +kernel
theorem dX1_receive_111 : decode cX1_receive 111 = .ok (.getfield 31, 3) := by decide +kernel
theorem dX1_receive_114 : decode cX1_receive 114 = .ok (.getfield 88, 3) := by decide +kernel
theorem dX1_receive_117 : decode cX1_receive 117 = .ok (.iload_n 1, 1) := by decide +kernel
theorem dX1_receive_118 : decode cX1_receive 118 = .ok (.aaload, 1) := by decide +kernel
theorem dX1_receive_119 : decode cX1_receive 119 = .ok (.aload 7, 2) := by decide +kernel
theorem dX1_receive_121 : decode cX1_receive 121 = .ok (.iload 9, 2) := by decide +kernel
theorem dX1_receive_123 : decode cX1_receive 123 = .ok (.invokevirtual 255, 3) := by decide +kernel
theorem dX1_receive_126 : decode cX1_receive 126 = .ok (.aload_n 0, 1) := by decide +kernel
theorem dX1_receive_127 : decode cX1_receive 127 = .ok (.getfield 31, 3) := by decide +kernel
theorem dX1_receive_130 : decode cX1_receive 130 = .ok (.dup, 1) := by decide +kernel
theorem dX1_receive_131 : decode cX1_receive 131 = .ok (.getfield 259, 3) := by decide +kernel
theorem dX1_receive_134 : decode cX1_receive 134 = .ok (.iconst 1, 1) := by decide +kernel
theorem dX1_receive_135 : decode cX1_receive 135 = .ok (.iadd, 1) := by decide +kernel
theorem dX1_receive_136 : decode cX1_receive 136 = .ok (.putfield 259, 3) := by decide +kernel
theorem dX1_receive_139 : decode cX1_receive 139 = .ok (.aload_n 0, 1) := by decide +kernel
theorem dX1_receive_140 : decode cX1_receive 140 = .ok (.getfield 31, 3) := by decide +kernel
theorem dX1_receive_143 : decode cX1_receive 143 = .ok (.dup, 1) := by decide +kernel
theorem dX1_receive_144 : decode cX1_receive 144 = .ok (.getfield 137, 3) := by decide +kernel
theorem dX1_receive_147 : decode cX1_receive 147 = .ok (.getstatic 197, 3) := by decide +kernel
theorem dX1_receive_150 : decode cX1_receive 150 = .ok (.iload 6, 2) := by decide +kernel
theorem dX1_receive_152 : decode cX1_receive 152 = .ok (.iaload, 1) := by decide +kernel
theorem dX1_receive_153 : decode cX1_receive 153 = .ok (.iadd, 1) := by decide +kernel
theorem dX1_receive_154 : decode cX1_receive 154 = .ok (.putfield 137, 3) := by decide +kernel
theorem dX1_receive_157 : decode cX1_receive 157 = .ok (.iinc 8 1, 3) := by decide +kernel
theorem dX1_receive_160 : decode cX1_receive 160 = .ok (.iinc 9 1, 3) := by decide +kernel
theorem dX1_receive_163 : decode cX1_receive 163 = .ok (.goto (-127), 3) := by decide +kernel
theorem dX1_receive_166 : decode cX1_receive 166 = .ok (.aload_n 0, 1) := by decide +kernel
theorem dX1_receive_167 : decode cX1_receive 167 = .ok (.getfield 31, 3) := by decide +kernel
theorem dX1_receive_170 : decode cX1_receive 170 = .ok (.getfield 57, 3) := by decide +kernel
theorem dX1_receive_173 : decode cX1_receive 173 = .ok (.iconst 1, 1) := by decide +kernel
theorem dX1_receive_174 : decode cX1_receive 174 = .ok (.iload_n 1, 1) := by decide +kernel
theorem dX1_receive_175 : decode cX1_receive 175 = .ok (.ishl, 1) := by decide +kernel
theorem dX1_receive_176 : decode cX1_receive 176 = .ok (.iand, 1) := by decide +kernel
theorem dX1_receive_177 : decode cX1_receive 177 = .ok (.ifCond .ne 7, 3) := by decide +kernel
theorem dX1_receive_180 : decode cX1_receive 180 = .ok (.iconst 1, 1) := by decide +kernel
theorem dX1_receive_181 : decode cX1_receive 181 = .ok (.goto 4, 3) := by decide +kernel
theorem dX1_receive_184 : decode cX1_receive 184 = .ok (.iconst 0, 1) := by decide +kernel
theorem dX1_receive_185 : decode cX1_receive 185 = .ok (.ireturn, 1) := by decide +kernel
theorem dX2_init_0 : decode cX2_init 0 = .ok (.aload_n 0, 1) := by decide +kernel
theorem dX2_init_1 : decode cX2_init 1 = .ok (.invokespecial 3, 3) := by decide +kernel
theorem dX2_init_4 : decode cX2_init 4 = .ok (.aload_n 0, 1) := by decide +kernel
theorem dX2_init_5 : decode cX2_init 5 = .ok (.iconst 4, 1) := by decide +kernel
theorem dX2_init_6 : decode cX2_init 6 = .ok (.newarray .int, 2) := by decide +kernel
theorem dX2_init_8 : decode cX2_init 8 = .ok (.putfield 9, 3) := by decide +kernel
theorem dX2_init_11 : decode cX2_init 11 = .ok (.aload_n 0, 1) := by decide +kernel
theorem dX2_init_12 : decode cX2_init 12 = .ok (.iconst 4, 1) := by decide +kernel
theorem dX2_init_13 : decode cX2_init 13 = .ok (.newarray .int, 2) := by decide +kernel
theorem dX2_init_15 : decode cX2_init 15 = .ok (.putfield 15, 3) := by decide +kernel
theorem dX2_init_18 : decode cX2_init 18 = .ok (.aload_n 0, 1) := by decide +kernel
theorem dX2_init_19 : decode cX2_init 19 = .ok (.bipush 16, 2) := by decide +kernel
theorem dX2_init_21 : decode cX2_init 21 = .ok (.newarray .int, 2) := by decide +kernel
theorem dX2_init_23 : decode cX2_init 23 = .ok (.putfield 18, 3) := by decide +kernel
theorem dX2_init_26 : decode cX2_init 26 = .ok (.aload_n 0, 1) := by decide +kernel
theorem dX2_init_27 : decode cX2_init 27 = .ok (.iconst 4, 1) := by decide +kernel
theorem dX2_init_28 : decode cX2_init 28 = .ok (.newarray .boolean, 2) := by decide +kernel
theorem dX2_init_30 : decode cX2_init 30 = .ok (.putfield 21, 3) := by decide +kernel
theorem dX2_init_33 : decode cX2_init 33 = .ok (.aload_n 0, 1) := by decide +kernel
theorem dX2_init_34 : decode cX2_init 34 = .ok (.iconst 4, 1) := by decide +kernel
theorem dX2_init_35 : decode cX2_init 35 = .ok (.newarray .int, 2) := by decide +kernel
theorem dX2_init_37 : decode cX2_init 37 = .ok (.putfield 25, 3) := by decide +kernel
theorem dX2_init_40 : decode cX2_init 40 = .ok (.aload_n 0, 1) := by decide +kernel
theorem dX2_init_41 : decode cX2_init 41 = .ok (.iconst 4, 1) := by decide +kernel
theorem dX2_init_42 : decode cX2_init 42 = .ok (.newarray .int, 2) := by decide +kernel
theorem dX2_init_44 : decode cX2_init 44 = .ok (.putfield 28, 3) := by decide +kernel
theorem dX2_init_47 : decode cX2_init 47 = .ok (.aload_n 0, 1) := by decide +kernel
theorem dX2_init_48 : decode cX2_init 48 = .ok (.iconst 4, 1) := by decide +kernel
theorem dX2_init_49 : decode cX2_init 49 = .ok (.anewarray 31, 3) := by decide +kernel
theorem dX2_init_52 : decode cX2_init 52 = .ok (.putfield 33, 3) := by decide +kernel
theorem dX2_init_55 : decode cX2_init 55 = .ok (.aload_n 0, 1) := by decide +kernel
theorem dX2_init_56 : decode cX2_init 56 = .ok (.aload_n 1, 1) := by decide +kernel
theorem dX2_init_57 : decode cX2_init 57 = .ok (.putfield 37, 3) := by decide +kernel
theorem dX2_init_60 : decode cX2_init 60 = .ok (.aload_n 0, 1) := by decide +kernel
theorem dX2_init_61 : decode cX2_init 61 = .ok (.aload_n 2, 1) := by decide +kernel
theorem dX2_init_62 : decode cX2_init 62 = .ok (.putfield 41, 3) := by decide +kernel
theorem dX2_init_65 : decode cX2_init 65 = .ok (.iconst 0, 1) := by decide +kernel
theorem dX2_init_66 : decode cX2_init 66 = .ok (.istore_n 3, 1) := by decide +kernel
theorem dX2_init_67 : decode cX2_init 67 = .ok (.iload_n 3, 1) := by decide +kernel
theorem dX2_init_68 : decode cX2_init 68 = .ok (.iconst 4, 1) := by decide +kernel
theorem dX2_init_69 : decode cX2_init 69 = .ok (.if_icmp .ge 22, 3) := by decide +kernel
theorem dX2_init_72 : decode cX2_init 72 = .ok (.aload_n 0, 1) := by decide +kernel
theorem dX2_init_73 : decode cX2_init 73 = .ok (.getfield 33, 3) := by decide +kernel
theorem dX2_init_76 : decode cX2_init 76 = .ok (.iload_n 3, 1) := by decide +kernel
theorem dX2_init_77 : decode cX2_init 77 = .ok (.new 31, 3) := by decide +kernel
theorem dX2_init_80 : decode cX2_init 80 = .ok (.dup, 1) := by decide +kernel
theorem dX2_init_81 : decode cX2_init 81 = .ok (.invokespecial 45, 3) := by decide +kernel
theorem dX2_init_84 : decode cX2_init 84 = .ok (.aastore, 1) := by decide +kernel
theorem dX2_init_85 : decode cX2_init 85 = .ok (.iinc 3 1, 3) := by decide +kernel
theorem dX2_init_88 : decode cX2_init 88 = .ok (.goto (-21), 3) := by decide +kernel
theorem dX2_init_91 : decode cX2_init 91 = .ok (.return_, 1) := by decide +kernel
theorem dX2_addStep_0 : decode cX2_addStep 0 = .ok (.aload_n 0, 1) := by decide +kernel
theorem dX2_addStep_1 : decode cX2_addStep 1 = .ok (.getfield 9, 3) := by decide +kernel
theorem dX2_addStep_4 : decode cX2_addStep 4 = .ok (.aload_n 0, 1) := by decide +kernel
theorem dX2_addStep_5 : decode cX2_addStep 5 = .ok (.getfield 46, 3) := by decide +kernel
theorem dX2_addStep_8 : decode cX2_addStep 8 = .ok (.iload_n 1, 1) := by decide +kernel
theorem dX2_addStep_9 : decode cX2_addStep 9 = .ok (.iastore, 1) := by decide +kernel
theorem dX2_addStep_10 : decode cX2_addStep 10 = .ok (.aload_n 0, 1) := by decide +kernel
theorem dX2_addStep_11 : decode cX2_addStep 11 = .ok (.getfield 15, 3) := by decide +kernel
theorem dX2_addStep_14 : decode cX2_addStep 14 = .ok (.aload_n 0, 1) := by decide +kernel
theorem dX2_addStep_15 : decode cX2_addStep 15 = .ok (.getfield 46, 3) := by decide +kernel
theorem dX2_addStep_18 : decode cX2_addStep 18 = .ok (.iload_n 2, 1) := by decide +kernel
theorem dX2_addStep_19 : decode cX2_addStep 19 = .ok (.iastore, 1) := by decide +kernel
theorem dX2_addStep_20 : decode cX2_addStep 20 = .ok (.aload_n 0, 1) := by decide +kernel
theorem dX2_addStep_21 : decode cX2_addStep 21 = .ok (.getfield 46, 3) := by decide +kernel
theorem dX2_addStep_24 : decode cX2_addStep 24 = .ok (.iconst 4, 1) := by decide +kernel
theorem dX2_addStep_25 : decode cX2_addStep 25 = .ok (.imul, 1) := by decide +kernel
theorem dX2_addStep_26 : decode cX2_addStep 26 = .ok (.istore 7, 2) := by decide +kernel
theorem dX2_addStep_28 : decode cX2_addStep 28 = .ok (.aload_n 0, 1) := by decide +kernel
theorem dX2_addStep_29 : decode cX2_addStep 29 = .ok (.getfield 18, 3) := by decide +kernel
theorem dX2_addStep_32 : decode cX2_addStep 32 = .ok (.iload 7, 2) := by decide +kernel
theorem dX2_addStep_34 : decode cX2_addStep 34 = .ok (.iload_n 3, 1) := by decide +kernel
theorem dX2_addStep_35 : decode cX2_addStep 35 = .ok (.iastore, 1) := by decide +kernel
theorem dX2_addStep_36 : decode cX2_addStep 36 = .ok (.aload_n 0, 1) := by decide +kernel
theorem dX2_addStep_37 : decode cX2_addStep 37 = .ok (.getfield 18, 3) := by decide +kernel
theorem dX2_addStep_40 : decode cX2_addStep 40 = .ok (.iload 7, 2) := by decide +kernel
theorem dX2_addStep_42 : decode cX2_addStep 42 = .ok (.iconst 1, 1) := by decide +kernel
theorem dX2_addStep_43 : decode cX2_addStep 43 = .ok (.iadd, 1) := by decide +kernel
theorem dX2_addStep_44 : decode cX2_addStep 44 = .ok (.iload 4, 2) := by decide +kernel
theorem dX2_addStep_46 : decode cX2_addStep 46 = .ok (.iastore, 1) := by decide +kernel
theorem dX2_addStep_47 : decode cX2_addStep 47 = .ok (.aload_n 0, 1) := by decide +kernel
theorem dX2_addStep_48 : decode cX2_addStep 48 = .ok (.getfield 18, 3) := by decide +kernel
theorem dX2_addStep_51 : decode cX2_addStep 51 = .ok (.iload 7, 2) := by decide +kernel
theorem dX2_addStep_53 : decode cX2_addStep 53 = .ok (.iconst 2, 1) := by decide +kernel
theorem dX2_addStep_54 : decode cX2_addStep 54 = .ok (.iadd, 1) := by decide +kernel
theorem dX2_addStep_55 : decode cX2_addStep 55 = .ok (.iload 5, 2) := by decide +kernel
theorem dX2_addStep_57 : decode cX2_addStep 57 = .ok (.iastore, 1) := by decide +kernel
theorem dX2_addStep_58 : decode cX2_addStep 58 = .ok (.aload_n 0, 1) := by decide +kernel
theorem dX2_addStep_59 : decode cX2_addStep 59 = .ok (.getfield 18, 3) := by decide +kernel
theorem dX2_addStep_62 : decode cX2_addStep 62 = .ok (.iload 7, 2) := by decide +kernel
theorem dX2_addStep_64 : decode cX2_addStep 64 = .ok (.iconst 3, 1) := by decide +kernel
theorem dX2_addStep_65 : decode cX2_addStep 65 = .ok (.iadd, 1) := by decide +kernel
theorem dX2_addStep_66 : decode cX2_addStep 66 = .ok (.iload 6, 2) := by decide +kernel
theorem dX2_addStep_68 : decode cX2_addStep 68 = .ok (.iastore, 1) := by decide +kernel
theorem dX2_addStep_69 : decode cX2_addStep 69 = .ok (.aload_n 0, 1) := by decide +kernel
theorem dX2_addStep_70 : decode cX2_addStep 70 = .ok (.getfield 21, 3) := by decide +kernel
theorem dX2_addStep_73 : decode cX2_addStep 73 = .ok (.aload_n 0, 1) := by decide +kernel
theorem dX2_addStep_74 : decode cX2_addStep 74 = .ok (.getfield 46, 3) := by decide +kernel
theorem dX2_addStep_77 : decode cX2_addStep 77 = .ok (.iconst 0, 1) := by decide +kernel
theorem dX2_addStep_78 : decode cX2_addStep 78 = .ok (.bastore, 1) := by decide +kernel
theorem dX2_addStep_79 : decode cX2_addStep 79 = .ok (.aload_n 0, 1) := by decide +kernel
theorem dX2_addStep_80 : decode cX2_addStep 80 = .ok (.dup, 1) := by decide +kernel
theorem dX2_addStep_81 : decode cX2_addStep 81 = .ok (.getfield 46, 3) := by decide +kernel
theorem dX2_addStep_84 : decode cX2_addStep 84 = .ok (.iconst 1, 1) := by decide +kernel
theorem dX2_addStep_85 : decode cX2_addStep 85 = .ok (.iadd, 1) := by decide +kernel
theorem dX2_addStep_86 : decode cX2_addStep 86 = .ok (.putfield 46, 3) := by decide +kernel
theorem dX2_addStep_89 : decode cX2_addStep 89 = .ok (.aload_n 0, 1) := by decide +kernel
theorem dX2_addStep_90 : decode cX2_addStep 90 = .ok (.getfield 46, 3) := by decide +kernel
theorem dX2_addStep_93 : decode cX2_addStep 93 = .ok (.ireturn, 1) := by decide +kernel
theorem dX2_runSteps_0 : decode cX2_runSteps 0 = .ok (.aload_n 0, 1) := by decide +kernel
theorem dX2_runSteps_1 : decode cX2_runSteps 1 = .ok (.getfield 46, 3) := by decide +kernel
theorem dX2_runSteps_4 : decode cX2_runSteps 4 = .ok (.istore_n 1, 1) := by decide +kernel
theorem dX2_runSteps_5 : decode cX2_runSteps 5 = .ok (.aload_n 0, 1) := by decide +kernel
theorem dX2_runSteps_6 : decode cX2_runSteps 6 = .ok (.iconst 0, 1) := by decide +kernel
theorem dX2_runSteps_7 : decode cX2_runSteps 7 = .ok (.putfield 46, 3) := by decide +kernel
theorem dX2_runSteps_10 : decode cX2_runSteps 10 = .ok (.iconst 0, 1) := by decide +kernel
theorem dX2_runSteps_11 : decode cX2_runSteps 11 = .ok (.istore_n 2, 1) := by decide +kernel
theorem dX2_runSteps_12 : decode cX2_runSteps 12 = .ok (.iload_n 2, 1) := by decide +kernel
theorem dX2_runSteps_13 : decode cX2_runSteps 13 = .ok (.iload_n 1, 1) := by decide +kernel
theorem dX2_runSteps_14 : decode cX2_runSteps 14 = .ok (.if_icmp .ge 24, 3) := by decide +kernel
theorem dX2_runSteps_17 : decode cX2_runSteps 17 = .ok (.aload_n 0, 1) := by decide +kernel
theorem dX2_runSteps_18 : decode cX2_runSteps 18 = .ok (.iload_n 2, 1) := by decide +kernel
theorem dX2_runSteps_19 : decode cX2_runSteps 19 = .ok (.invokevirtual 50, 3) := by decide +kernel
theorem dX2_runSteps_22 : decode cX2_runSteps 22 = .ok (.ifCond .ne 10, 3) := by decide +kernel
theorem dX2_runSteps_25 : decode cX2_runSteps 25 = .ok (.aload_n 0, 1) := by decide +kernel
theorem dX2_runSteps_26 : decode cX2_runSteps 26 = .ok (.iload_n 2, 1) := by decide +kernel
theorem dX2_runSteps_27 : decode cX2_runSteps 27 = .ok (.invokevirtual 54, 3) := by decide +kernel
theorem dX2_runSteps_30 : decode cX2_runSteps 30 = .ok (.iload_n 2, 1) := by decide +kernel
theorem dX2_runSteps_31 : decode cX2_runSteps 31 = .ok (.ireturn, 1) := by decide +kernel
theorem dX2_runSteps_32 : decode cX2_runSteps 32 = .ok (.iinc 2 1, 3) := by decide +kernel
theorem dX2_runSteps_35 : decode cX2_runSteps 35 = .ok (.goto (-23), 3) := by decide +kernel
theorem dX2_runSteps_38 : decode cX2_runSteps 38 = .ok (.iconst (-1), 1) := by decide +kernel
theorem dX2_runSteps_39 : decode cX2_runSteps 39 = .ok (.ireturn, 1) := by decide +kernel
theorem dX2_request_0 : decode cX2_request 0 = .ok (.aload_n 0, 1) := by decide +kernel
theorem dX2_request_1 : decode cX2_request 1 = .ok (.getfield 15, 3) := by decide +kernel
theorem dX2_request_4 : decode cX2_request 4 = .ok (.iload_n 1, 1) := by decide +kernel
theorem dX2_request_5 : decode cX2_request 5 = .ok (.iaload, 1) := by decide +kernel
theorem dX2_request_6 : decode cX2_request 6 = .ok (.invokestatic 58, 3) := by decide +kernel
theorem dX2_request_9 : decode cX2_request 9 = .ok (.istore_n 2, 1) := by decide +kernel
theorem dX2_request_10 : decode cX2_request 10 = .ok (.iconst 0, 1) := by decide +kernel
theorem dX2_request_11 : decode cX2_request 11 = .ok (.istore_n 3, 1) := by decide +kernel
theorem dX2_request_12 : decode cX2_request 12 = .ok (.iload_n 3, 1) := by decide +kernel
theorem dX2_request_13 : decode cX2_request 13 = .ok (.iconst 3, 1) := by decide +kernel
theorem dX2_request_14 : decode cX2_request 14 = .ok (.if_icmp .ge 78, 3) := by decide +kernel
theorem dX2_request_17 : decode cX2_request 17 = .ok (.aload_n 0, 1) := by decide +kernel
theorem dX2_request_18 : decode cX2_request 18 = .ok (.getfield 37, 3) := by decide +kernel
theorem dX2_request_21 : decode cX2_request 21 = .ok (.iload_n 2, 1) := by decide +kernel
theorem dX2_request_22 : decode cX2_request 22 = .ok (.invokevirtual 62, 3) := by decide +kernel
theorem dX2_request_25 : decode cX2_request 25 = .ok (.aload_n 0, 1) := by decide +kernel
theorem dX2_request_26 : decode cX2_request 26 = .ok (.getfield 37, 3) := by decide +kernel
theorem dX2_request_29 : decode cX2_request 29 = .ok (.iload_n 2, 1) := by decide +kernel
theorem dX2_request_30 : decode cX2_request 30 = .ok (.invokevirtual 67, 3) := by decide +kernel
theorem dX2_request_33 : decode cX2_request 33 = .ok (.istore 4, 2) := by decide +kernel
theorem dX2_request_35 : decode cX2_request 35 = .ok (.aload_n 0, 1) := by decide +kernel
theorem dX2_request_36 : decode cX2_request 36 = .ok (.getfield 21, 3) := by decide +kernel
theorem dX2_request_39 : decode cX2_request 39 = .ok (.iload_n 1, 1) := by decide +kernel
theorem dX2_request_40 : decode cX2_request 40 = .ok (.baload, 1) := by decide +kernel
theorem dX2_request_41 : decode cX2_request 41 = .ok (.ifCond .ne 33, 3) := by decide +kernel
theorem dX2_request_44 : decode cX2_request 44 = .ok (.iload 4, 2) := by decide +kernel
theorem dX2_request_46 : decode cX2_request 46 = .ok (.ifCond .ne 15, 3) := by decide +kernel
theorem dX2_request_49 : decode cX2_request 49 = .ok (.aload_n 0, 1) := by decide +kernel
theorem dX2_request_50 : decode cX2_request 50 = .ok (.getfield 37, 3) := by decide +kernel
theorem dX2_request_53 : decode cX2_request 53 = .ok (.getfield 70, 3) := by decide +kernel
theorem dX2_request_56 : decode cX2_request 56 = .ok (.iload_n 2, 1) := by decide +kernel
theorem dX2_request_57 : decode cX2_request 57 = .ok (.baload, 1) := by decide +kernel
theorem dX2_request_58 : decode cX2_request 58 = .ok (.ifCond .eq 16, 3) := by decide +kernel
theorem dX2_request_61 : decode cX2_request 61 = .ok (.aload_n 0, 1) := by decide +kernel
theorem dX2_request_62 : decode cX2_request 62 = .ok (.iload_n 1, 1) := by decide +kernel
theorem dX2_request_63 : decode cX2_request 63 = .ok (.invokevirtual 73, 3) := by decide +kernel
theorem dX2_request_66 : decode cX2_request 66 = .ok (.ifCond .eq 8, 3) := by decide +kernel
theorem dX2_request_69 : decode cX2_request 69 = .ok (.aload_n 0, 1) := by decide +kernel
theorem dX2_request_70 : decode cX2_request 70 = .ok (.iload_n 1, 1) := by decide +kernel
theorem dX2_request_71 : decode cX2_request 71 = .ok (.invokevirtual 76, 3) := by decide +kernel
theorem dX2_request_74 : decode cX2_request 74 = .ok (.iload 4, 2) := by decide +kernel
theorem dX2_request_76 : decode cX2_request 76 = .ok (.ifCond .eq 10, 3) := by decide +kernel
theorem dX2_request_79 : decode cX2_request 79 = .ok (.aload_n 0, 1) := by decide +kernel
theorem dX2_request_80 : decode cX2_request 80 = .ok (.getfield 21, 3) := by decide +kernel
theorem dX2_request_83 : decode cX2_request 83 = .ok (.iload_n 1, 1) := by decide +kernel
theorem dX2_request_84 : decode cX2_request 84 = .ok (.baload, 1) := by decide +kernel
theorem dX2_request_85 : decode cX2_request 85 = .ok (.ireturn, 1) := by decide +kernel
theorem dX2_request_86 : decode cX2_request 86 = .ok (.iinc 3 1, 3) := by decide +kernel
theorem dX2_request_89 : decode cX2_request 89 = .ok (.goto (-77), 3) := by decide +kernel
theorem dX2_request_92 : decode cX2_request 92 = .ok (.iconst 0, 1) := by decide +kernel
theorem dX2_request_93 : decode cX2_request 93 = .ok (.ireturn, 1) := by decide +kernel
theorem dX2_canStep_0 : decode cX2_canStep 0 = .ok (.aload_n 0, 1) := by decide +kernel
theorem dX2_canStep_1 : decode cX2_canStep 1 = .ok (.getfield 15, 3) := by decide +kernel
theorem dX2_canStep_4 : decode cX2_canStep 4 = .ok (.iload_n 1, 1) := by decide +kernel
theorem dX2_canStep_5 : decode cX2_canStep 5 = .ok (.iaload, 1) := by decide +kernel
theorem dX2_canStep_6 : decode cX2_canStep 6 = .ok (.istore_n 2, 1) := by decide +kernel
theorem dX2_canStep_7 : decode cX2_canStep 7 = .ok (.iload_n 2, 1) := by decide +kernel
theorem dX2_canStep_8 : decode cX2_canStep 8 = .ok (.invokestatic 58, 3) := by decide +kernel
theorem dX2_canStep_11 : decode cX2_canStep 11 = .ok (.istore_n 3, 1) := by decide +kernel
theorem dX2_canStep_12 : decode cX2_canStep 12 = .ok (.iload_n 1, 1) := by decide +kernel
theorem dX2_canStep_13 : decode cX2_canStep 13 = .ok (.iconst 4, 1) := by decide +kernel
theorem dX2_canStep_14 : decode cX2_canStep 14 = .ok (.imul, 1) := by decide +kernel
theorem dX2_canStep_15 : decode cX2_canStep 15 = .ok (.istore 4, 2) := by decide +kernel
theorem dX2_canStep_17 : decode cX2_canStep 17 = .ok (.aload_n 0, 1) := by decide +kernel
theorem dX2_canStep_18 : decode cX2_canStep 18 = .ok (.getfield 9, 3) := by decide +kernel
theorem dX2_canStep_21 : decode cX2_canStep 21 = .ok (.iload_n 1, 1) := by decide +kernel
theorem dX2_canStep_22 : decode cX2_canStep 22 = .ok (.iaload, 1) := by decide +kernel
theorem dX2_canStep_23 : decode cX2_canStep 23 = .ok (.lookupswitch 165 #[(0, 25), (1, 90)], 25) := by decide +kernel
theorem dX2_canStep_48 : decode cX2_canStep 48 = .ok (.iload_n 3, 1) := by decide +kernel
theorem dX2_canStep_49 : decode cX2_canStep 49 = .ok (.aload_n 0, 1) := by decide +kernel
theorem dX2_canStep_50 : decode cX2_canStep 50 = .ok (.getfield 18, 3) := by decide +kernel
theorem dX2_canStep_53 : decode cX2_canStep 53 = .ok (.iload 4, 2) := by decide +kernel
theorem dX2_canStep_55 : decode cX2_canStep 55 = .ok (.iaload, 1) := by decide +kernel
theorem dX2_canStep_56 : decode cX2_canStep 56 = .ok (.aload_n 0, 1) := by decide +kernel
theorem dX2_canStep_57 : decode cX2_canStep 57 = .ok (.getfield 18, 3) := by decide +kernel
theorem dX2_canStep_60 : decode cX2_canStep 60 = .ok (.iload 4, 2) := by decide +kernel
theorem dX2_canStep_62 : decode cX2_canStep 62 = .ok (.iconst 1, 1) := by decide +kernel
theorem dX2_canStep_63 : decode cX2_canStep 63 = .ok (.iadd, 1) := by decide +kernel
theorem dX2_canStep_64 : decode cX2_canStep 64 = .ok (.iaload, 1) := by decide +kernel
theorem dX2_canStep_65 : decode cX2_canStep 65 = .ok (.aload_n 0, 1) := by decide +kernel
theorem dX2_canStep_66 : decode cX2_canStep 66 = .ok (.getfield 18, 3) := by decide +kernel
theorem dX2_canStep_69 : decode cX2_canStep 69 = .ok (.iload 4, 2) := by decide +kernel
theorem dX2_canStep_71 : decode cX2_canStep 71 = .ok (.iconst 2, 1) := by decide +kernel
theorem dX2_canStep_72 : decode cX2_canStep 72 = .ok (.iadd, 1) := by decide +kernel
theorem dX2_canStep_73 : decode cX2_canStep 73 = .ok (.iaload, 1) := by decide +kernel
theorem dX2_canStep_74 : decode cX2_canStep 74 = .ok (.aload_n 0, 1) := by decide +kernel
theorem dX2_canStep_75 : decode cX2_canStep 75 = .ok (.getfield 18, 3) := by decide +kernel
theorem dX2_canStep_78 : decode cX2_canStep 78 = .ok (.iload 4, 2) := by decide +kernel
theorem dX2_canStep_80 : decode cX2_canStep 80 = .ok (.iconst 3, 1) := by decide +kernel
theorem dX2_canStep_81 : decode cX2_canStep 81 = .ok (.iadd, 1) := by decide +kernel
theorem dX2_canStep_82 : decode cX2_canStep 82 = .ok (.iaload, 1) := by decide +kernel
theorem dX2_canStep_83 : decode cX2_canStep 83 = .ok (.invokestatic 79, 3) := by decide +kernel
theorem dX2_canStep_86 : decode cX2_canStep 86 = .ok (.ifCond .eq 25, 3) := by decide +kernel
theorem dX2_canStep_89 : decode cX2_canStep 89 = .ok (.aload_n 0, 1) := by decide +kernel
theorem dX2_canStep_90 : decode cX2_canStep 90 = .ok (.getfield 41, 3) := by decide +kernel
theorem dX2_canStep_93 : decode cX2_canStep 93 = .ok (.iload_n 2, 1) := by decide +kernel
theorem dX2_canStep_94 : decode cX2_canStep 94 = .ok (.aload_n 0, 1) := by decide +kernel
theorem dX2_canStep_95 : decode cX2_canStep 95 = .ok (.getfield 18, 3) := by decide +kernel
theorem dX2_canStep_98 : decode cX2_canStep 98 = .ok (.iload 4, 2) := by decide +kernel
theorem dX2_canStep_100 : decode cX2_canStep 100 = .ok (.iaload, 1) := by decide +kernel
theorem dX2_canStep_101 : decode cX2_canStep 101 = .ok (.invokevirtual 83, 3) := by decide +kernel
theorem dX2_canStep_104 : decode cX2_canStep 104 = .ok (.ifCond .eq 7, 3) := by decide +kernel
theorem dX2_canStep_107 : decode cX2_canStep 107 = .ok (.iconst 1, 1) := by decide +kernel
theorem dX2_canStep_108 : decode cX2_canStep 108 = .ok (.goto 4, 3) := by decide +kernel
theorem dX2_canStep_111 : decode cX2_canStep 111 = .ok (.iconst 0, 1) := by decide +kernel
theorem dX2_canStep_112 : decode cX2_canStep 112 = .ok (.ireturn, 1) := by decide +kernel
theorem dX2_canStep_113 : decode cX2_canStep 113 = .ok (.aload_n 0, 1) := by decide +kernel
theorem dX2_canStep_114 : decode cX2_canStep 114 = .ok (.getfield 41, 3) := by decide +kernel
theorem dX2_canStep_117 : decode cX2_canStep 117 = .ok (.getfield 89, 3) := by decide +kernel
theorem dX2_canStep_120 : decode cX2_canStep 120 = .ok (.iload_n 2, 1) := by decide +kernel
theorem dX2_canStep_121 : decode cX2_canStep 121 = .ok (.aaload, 1) := by decide +kernel
theorem dX2_canStep_122 : decode cX2_canStep 122 = .ok (.aload_n 0, 1) := by decide +kernel
theorem dX2_canStep_123 : decode cX2_canStep 123 = .ok (.getfield 18, 3) := by decide +kernel
theorem dX2_canStep_126 : decode cX2_canStep 126 = .ok (.iload 4, 2) := by decide +kernel
theorem dX2_canStep_128 : decode cX2_canStep 128 = .ok (.iaload, 1) := by decide +kernel
theorem dX2_canStep_129 : decode cX2_canStep 129 = .ok (.invokevirtual 92, 3) := by decide +kernel
theorem dX2_canStep_132 : decode cX2_canStep 132 = .ok (.ifCond .eq 54, 3) := by decide +kernel
theorem dX2_canStep_135 : decode cX2_canStep 135 = .ok (.aload_n 0, 1) := by decide +kernel
theorem dX2_canStep_136 : decode cX2_canStep 136 = .ok (.getfield 18, 3) := by decide +kernel
theorem dX2_canStep_139 : decode cX2_canStep 139 = .ok (.iload 4, 2) := by decide +kernel
theorem dX2_canStep_141 : decode cX2_canStep 141 = .ok (.iconst 1, 1) := by decide +kernel
theorem dX2_canStep_142 : decode cX2_canStep 142 = .ok (.iadd, 1) := by decide +kernel
theorem dX2_canStep_143 : decode cX2_canStep 143 = .ok (.iaload, 1) := by decide +kernel
theorem dX2_canStep_144 : decode cX2_canStep 144 = .ok (.iconst 0, 1) := by decide +kernel
theorem dX2_canStep_145 : decode cX2_canStep 145 = .ok (.iload_n 3, 1) := by decide +kernel
theorem dX2_canStep_146 : decode cX2_canStep 146 = .ok (.invokestatic 95, 3) := by decide +kernel
theorem dX2_canStep_149 : decode cX2_canStep 149 = .ok (.iconst 1, 1) := by decide +kernel
theorem dX2_canStep_150 : decode cX2_canStep 150 = .ok (.isub, 1) := by decide +kernel
theorem dX2_canStep_151 : decode cX2_canStep 151 = .ok (.invokestatic 98, 3) := by decide +kernel
theorem dX2_canStep_154 : decode cX2_canStep 154 = .ok (.ifCond .eq 32, 3) := by decide +kernel
theorem dX2_canStep_157 : decode cX2_canStep 157 = .ok (.iload_n 3, 1) := by decide +kernel
theorem dX2_canStep_158 : decode cX2_canStep 158 = .ok (.aload_n 0, 1) := by decide +kernel
theorem dX2_canStep_159 : decode cX2_canStep 159 = .ok (.getfield 18, 3) := by decide +kernel
theorem dX2_canStep_162 : decode cX2_canStep 162 = .ok (.iload 4, 2) := by decide +kernel
theorem dX2_canStep_164 : decode cX2_canStep 164 = .ok (.iconst 1, 1) := by decide +kernel
theorem dX2_canStep_165 : decode cX2_canStep 165 = .ok (.iadd, 1) := by decide +kernel
theorem dX2_canStep_166 : decode cX2_canStep 166 = .ok (.iaload, 1) := by decide +kernel
theorem dX2_canStep_167 : decode cX2_canStep 167 = .ok (.aload_n 0, 1) := by decide +kernel
theorem dX2_canStep_168 : decode cX2_canStep 168 = .ok (.getfield 18, 3) := by decide +kernel
theorem dX2_canStep_171 : decode cX2_canStep 171 = .ok (.iload 4, 2) := by decide +kernel
theorem dX2_canStep_173 : decode cX2_canStep 173 = .ok (.iconst 2, 1) := by decide +kernel
theorem dX2_canStep_174 : decode cX2_canStep 174 = .ok (.iadd, 1) := by decide +kernel
theorem dX2_canStep_175 : decode cX2_canStep 175 = .ok (.iaload, 1) := by decide +kernel
theorem dX2_canStep_176 : decode cX2_canStep 176 = .ok (.invokestatic 102, 3) := by decide +kernel
theorem dX2_canStep_179 : decode cX2_canStep 179 = .ok (.ifCond .eq 7, 3) := by decide +kernel
theorem dX2_canStep_182 : decode cX2_canStep 182 = .ok (.iconst 1, 1) := by decide +kernel
theorem dX2_canStep_183 : decode cX2_canStep 183 = .ok (.goto 4, 3) := by decide +kernel
theorem dX2_canStep_186 : decode cX2_canStep 186 = .ok (.iconst 0, 1) := by decide +kernel
theorem dX2_canStep_187 : decode cX2_canStep 187 = .ok (.ireturn, 1) := by decide +kernel
theorem dX2_canStep_188 : decode cX2_canStep 188 = .ok (.aload_n 0, 1) := by decide +kernel
theorem dX2_canStep_189 : decode cX2_canStep 189 = .ok (.getfield 41, 3) := by decide +kernel
theorem dX2_canStep_192 : decode cX2_canStep 192 = .ok (.getfield 89, 3) := by decide +kernel
theorem dX2_canStep_195 : decode cX2_canStep 195 = .ok (.iload_n 2, 1) := by decide +kernel
theorem dX2_canStep_196 : decode cX2_canStep 196 = .ok (.aaload, 1) := by decide +kernel
theorem dX2_canStep_197 : decode cX2_canStep 197 = .ok (.aload_n 0, 1) := by decide +kernel
theorem dX2_canStep_198 : decode cX2_canStep 198 = .ok (.getfield 18, 3) := by decide +kernel
theorem dX2_canStep_201 : decode cX2_canStep 201 = .ok (.iload 4, 2) := by decide +kernel
theorem dX2_canStep_203 : decode cX2_canStep 203 = .ok (.iaload, 1) := by decide +kernel
theorem dX2_canStep_204 : decode cX2_canStep 204 = .ok (.invokevirtual 92, 3) := by decide +kernel
theorem dX2_canStep_207 : decode cX2_canStep 207 = .ok (.ireturn, 1) := by decide +kernel
theorem dX2_doStep_0 : decode cX2_doStep 0 = .ok (.aload_n 0, 1) := by decide +kernel
theorem dX2_doStep_1 : decode cX2_doStep 1 = .ok (.getfield 15, 3) := by decide +kernel
theorem dX2_doStep_4 : decode cX2_doStep 4 = .ok (.iload_n 1, 1) := by decide +kernel
theorem dX2_doStep_5 : decode cX2_doStep 5 = .ok (.iaload, 1) := by decide +kernel
theorem dX2_doStep_6 : decode cX2_doStep 6 = .ok (.istore_n 2, 1) := by decide +kernel
theorem dX2_doStep_7 : decode cX2_doStep 7 = .ok (.iload_n 1, 1) := by decide +kernel
theorem dX2_doStep_8 : decode cX2_doStep 8 = .ok (.iconst 4, 1) := by decide +kernel
theorem dX2_doStep_9 : decode cX2_doStep 9 = .ok (.imul, 1) := by decide +kernel
theorem dX2_doStep_10 : decode cX2_doStep 10 = .ok (.istore_n 3, 1) := by decide +kernel
theorem dX2_doStep_11 : decode cX2_doStep 11 = .ok (.aload_n 0, 1) := by decide +kernel
theorem dX2_doStep_12 : decode cX2_doStep 12 = .ok (.getfield 25, 3) := by decide +kernel
theorem dX2_doStep_15 : decode cX2_doStep 15 = .ok (.iload_n 1, 1) := by decide +kernel
theorem dX2_doStep_16 : decode cX2_doStep 16 = .ok (.aload_n 0, 1) := by decide +kernel
theorem dX2_doStep_17 : decode cX2_doStep 17 = .ok (.getfield 18, 3) := by decide +kernel
theorem dX2_doStep_20 : decode cX2_doStep 20 = .ok (.iload_n 3, 1) := by decide +kernel
theorem dX2_doStep_21 : decode cX2_doStep 21 = .ok (.iaload, 1) := by decide +kernel
theorem dX2_doStep_22 : decode cX2_doStep 22 = .ok (.iastore, 1) := by decide +kernel
theorem dX2_doStep_23 : decode cX2_doStep 23 = .ok (.aload_n 0, 1) := by decide +kernel
theorem dX2_doStep_24 : decode cX2_doStep 24 = .ok (.getfield 21, 3) := by decide +kernel
theorem dX2_doStep_27 : decode cX2_doStep 27 = .ok (.iload_n 1, 1) := by decide +kernel
theorem dX2_doStep_28 : decode cX2_doStep 28 = .ok (.iconst 1, 1) := by decide +kernel
theorem dX2_doStep_29 : decode cX2_doStep 29 = .ok (.bastore, 1) := by decide +kernel
theorem dX2_doStep_30 : decode cX2_doStep 30 = .ok (.aload_n 0, 1) := by decide +kernel
theorem dX2_doStep_31 : decode cX2_doStep 31 = .ok (.getfield 9, 3) := by decide +kernel
theorem dX2_doStep_34 : decode cX2_doStep 34 = .ok (.iload_n 1, 1) := by decide +kernel
theorem dX2_doStep_35 : decode cX2_doStep 35 = .ok (.iaload, 1) := by decide +kernel
theorem dX2_doStep_36 : decode cX2_doStep 36 = .ok (.lookupswitch 114 #[(0, 28), (1, 75)], 28) := by decide +kernel
theorem dX2_doStep_64 : decode cX2_doStep 64 = .ok (.aload_n 0, 1) := by decide +kernel
theorem dX2_doStep_65 : decode cX2_doStep 65 = .ok (.getfield 25, 3) := by decide +kernel
theorem dX2_doStep_68 : decode cX2_doStep 68 = .ok (.iload_n 1, 1) := by decide +kernel
theorem dX2_doStep_69 : decode cX2_doStep 69 = .ok (.aload_n 0, 1) := by decide +kernel
theorem dX2_doStep_70 : decode cX2_doStep 70 = .ok (.getfield 41, 3) := by decide +kernel
theorem dX2_doStep_73 : decode cX2_doStep 73 = .ok (.iload_n 2, 1) := by decide +kernel
theorem dX2_doStep_74 : decode cX2_doStep 74 = .ok (.aload_n 0, 1) := by decide +kernel
theorem dX2_doStep_75 : decode cX2_doStep 75 = .ok (.getfield 18, 3) := by decide +kernel
theorem dX2_doStep_78 : decode cX2_doStep 78 = .ok (.iload_n 3, 1) := by decide +kernel
theorem dX2_doStep_79 : decode cX2_doStep 79 = .ok (.iaload, 1) := by decide +kernel
theorem dX2_doStep_80 : decode cX2_doStep 80 = .ok (.aload_n 0, 1) := by decide +kernel
theorem dX2_doStep_81 : decode cX2_doStep 81 = .ok (.getfield 18, 3) := by decide +kernel
theorem dX2_doStep_84 : decode cX2_doStep 84 = .ok (.iload_n 3, 1) := by decide +kernel
theorem dX2_doStep_85 : decode cX2_doStep 85 = .ok (.iconst 1, 1) := by decide +kernel
theorem dX2_doStep_86 : decode cX2_doStep 86 = .ok (.iadd, 1) := by decide +kernel
theorem dX2_doStep_87 : decode cX2_doStep 87 = .ok (.iaload, 1) := by decide +kernel
theorem dX2_doStep_88 : decode cX2_doStep 88 = .ok (.aload_n 0, 1) := by decide +kernel
theorem dX2_doStep_89 : decode cX2_doStep 89 = .ok (.getfield 18, 3) := by decide +kernel
theorem dX2_doStep_92 : decode cX2_doStep 92 = .ok (.iload_n 3, 1) := by decide +kernel
theorem dX2_doStep_93 : decode cX2_doStep 93 = .ok (.iconst 2, 1) := by decide +kernel
theorem dX2_doStep_94 : decode cX2_doStep 94 = .ok (.iadd, 1) := by decide +kernel
theorem dX2_doStep_95 : decode cX2_doStep 95 = .ok (.iaload, 1) := by decide +kernel
theorem dX2_doStep_96 : decode cX2_doStep 96 = .ok (.aload_n 0, 1) := by decide +kernel
theorem dX2_doStep_97 : decode cX2_doStep 97 = .ok (.getfield 18, 3) := by decide +kernel
theorem dX2_doStep_100 : decode cX2_doStep 100 = .ok (.iload_n 3, 1) := by decide +kernel
theorem dX2_doStep_101 : decode cX2_doStep 101 = .ok (.iconst 3, 1) := by decide +kernel
theorem dX2_doStep_102 : decode cX2_doStep 102 = .ok (.iadd, 1) := by decide +kernel
theorem dX2_doStep_103 : decode cX2_doStep 103 = .ok (.iaload, 1) := by decide +kernel
theorem dX2_doStep_104 : decode cX2_doStep 104 = .ok (.invokevirtual 105, 3) := by decide +kernel
theorem dX2_doStep_107 : decode cX2_doStep 107 = .ok (.iastore, 1) := by decide +kernel
theorem dX2_doStep_108 : decode cX2_doStep 108 = .ok (.goto 102, 3) := by decide +kernel
theorem dX2_doStep_111 : decode cX2_doStep 111 = .ok (.aload_n 0, 1) := by decide +kernel
theorem dX2_doStep_112 : decode cX2_doStep 112 = .ok (.getfield 28, 3) := by decide +kernel
theorem dX2_doStep_115 : decode cX2_doStep 115 = .ok (.iload_n 1, 1) := by decide +kernel
theorem dX2_doStep_116 : decode cX2_doStep 116 = .ok (.aload_n 0, 1) := by decide +kernel
theorem dX2_doStep_117 : decode cX2_doStep 117 = .ok (.getfield 41, 3) := by decide +kernel
theorem dX2_doStep_120 : decode cX2_doStep 120 = .ok (.iload_n 2, 1) := by decide +kernel
theorem dX2_doStep_121 : decode cX2_doStep 121 = .ok (.aload_n 0, 1) := by decide +kernel
theorem dX2_doStep_122 : decode cX2_doStep 122 = .ok (.getfield 25, 3) := by decide +kernel
theorem dX2_doStep_125 : decode cX2_doStep 125 = .ok (.iload_n 1, 1) := by decide +kernel
theorem dX2_doStep_126 : decode cX2_doStep 126 = .ok (.iaload, 1) := by decide +kernel
theorem dX2_doStep_127 : decode cX2_doStep 127 = .ok (.aload_n 0, 1) := by decide +kernel
theorem dX2_doStep_128 : decode cX2_doStep 128 = .ok (.getfield 18, 3) := by decide +kernel
theorem dX2_doStep_131 : decode cX2_doStep 131 = .ok (.iload_n 3, 1) := by decide +kernel
theorem dX2_doStep_132 : decode cX2_doStep 132 = .ok (.iconst 1, 1) := by decide +kernel
theorem dX2_doStep_133 : decode cX2_doStep 133 = .ok (.iadd, 1) := by decide +kernel
theorem dX2_doStep_134 : decode cX2_doStep 134 = .ok (.iaload, 1) := by decide +kernel
theorem dX2_doStep_135 : decode cX2_doStep 135 = .ok (.aload_n 0, 1) := by decide +kernel
theorem dX2_doStep_136 : decode cX2_doStep 136 = .ok (.getfield 18, 3) := by decide +kernel
theorem dX2_doStep_139 : decode cX2_doStep 139 = .ok (.iload_n 3, 1) := by decide +kernel
theorem dX2_doStep_140 : decode cX2_doStep 140 = .ok (.iconst 2, 1) := by decide +kernel
theorem dX2_doStep_141 : decode cX2_doStep 141 = .ok (.iadd, 1) := by decide +kernel
theorem dX2_doStep_142 : decode cX2_doStep 142 = .ok (.iaload, 1) := by decide +kernel
theorem dX2_doStep_143 : decode cX2_doStep 143 = .ok (.invokevirtual 109, 3) := by decide +kernel
theorem dX2_doStep_146 : decode cX2_doStep 146 = .ok (.iastore, 1) := by decide +kernel
theorem dX2_doStep_147 : decode cX2_doStep 147 = .ok (.goto 63, 3) := by decide +kernel
theorem dX2_doStep_150 : decode cX2_doStep 150 = .ok (.aload_n 0, 1) := by decide +kernel
theorem dX2_doStep_151 : decode cX2_doStep 151 = .ok (.getfield 33, 3) := by decide +kernel
theorem dX2_doStep_154 : decode cX2_doStep 154 = .ok (.iload_n 1, 1) := by decide +kernel
theorem dX2_doStep_155 : decode cX2_doStep 155 = .ok (.aaload, 1) := by decide +kernel
theorem dX2_doStep_156 : decode cX2_doStep 156 = .ok (.iconst 0, 1) := by decide +kernel
theorem dX2_doStep_157 : decode cX2_doStep 157 = .ok (.putfield 113, 3) := by decide +kernel
theorem dX2_doStep_160 : decode cX2_doStep 160 = .ok (.aload_n 0, 1) := by decide +kernel
theorem dX2_doStep_161 : decode cX2_doStep 161 = .ok (.getfield 33, 3) := by decide +kernel
theorem dX2_doStep_164 : decode cX2_doStep 164 = .ok (.iload_n 1, 1) := by decide +kernel
theorem dX2_doStep_165 : decode cX2_doStep 165 = .ok (.aaload, 1) := by decide +kernel
theorem dX2_doStep_166 : decode cX2_doStep 166 = .ok (.aload_n 0, 1) := by decide +kernel
theorem dX2_doStep_167 : decode cX2_doStep 167 = .ok (.getfield 41, 3) := by decide +kernel
theorem dX2_doStep_170 : decode cX2_doStep 170 = .ok (.getfield 89, 3) := by decide +kernel
theorem dX2_doStep_173 : decode cX2_doStep 173 = .ok (.iload_n 2, 1) := by decide +kernel
theorem dX2_doStep_174 : decode cX2_doStep 174 = .ok (.aaload, 1) := by decide +kernel
theorem dX2_doStep_175 : decode cX2_doStep 175 = .ok (.aload_n 0, 1) := by decide +kernel
theorem dX2_doStep_176 : decode cX2_doStep 176 = .ok (.getfield 41, 3) := by decide +kernel
theorem dX2_doStep_179 : decode cX2_doStep 179 = .ok (.getfield 89, 3) := by decide +kernel
theorem dX2_doStep_182 : decode cX2_doStep 182 = .ok (.iload_n 2, 1) := by decide +kernel
theorem dX2_doStep_183 : decode cX2_doStep 183 = .ok (.aaload, 1) := by decide +kernel
theorem dX2_doStep_184 : decode cX2_doStep 184 = .ok (.aload_n 0, 1) := by decide +kernel
theorem dX2_doStep_185 : decode cX2_doStep 185 = .ok (.getfield 25, 3) := by decide +kernel
theorem dX2_doStep_188 : decode cX2_doStep 188 = .ok (.iload_n 1, 1) := by decide +kernel
theorem dX2_doStep_189 : decode cX2_doStep 189 = .ok (.iaload, 1) := by decide +kernel
theorem dX2_doStep_190 : decode cX2_doStep 190 = .ok (.invokevirtual 114, 3) := by decide +kernel
theorem dX2_doStep_193 : decode cX2_doStep 193 = .ok (.invokevirtual 117, 3) := by decide +kernel
theorem dX2_doStep_196 : decode cX2_doStep 196 = .ok (.aload_n 0, 1) := by decide +kernel
theorem dX2_doStep_197 : decode cX2_doStep 197 = .ok (.getfield 41, 3) := by decide +kernel
theorem dX2_doStep_200 : decode cX2_doStep 200 = .ok (.iload_n 2, 1) := by decide +kernel
theorem dX2_doStep_201 : decode cX2_doStep 201 = .ok (.aload_n 0, 1) := by decide +kernel
theorem dX2_doStep_202 : decode cX2_doStep 202 = .ok (.getfield 25, 3) := by decide +kernel
theorem dX2_doStep_205 : decode cX2_doStep 205 = .ok (.iload_n 1, 1) := by decide +kernel
theorem dX2_doStep_206 : decode cX2_doStep 206 = .ok (.iaload, 1) := by decide +kernel
theorem dX2_doStep_207 : decode cX2_doStep 207 = .ok (.invokevirtual 121, 3) := by decide +kernel
theorem dX2_doStep_210 : decode cX2_doStep 210 = .ok (.return_, 1) := by decide +kernel
theorem dX2_takeAllBack_0 : decode cX2_takeAllBack 0 = .ok (.iload_n 1, 1) := by decide +kernel
theorem dX2_takeAllBack_1 : decode cX2_takeAllBack 1 = .ok (.istore_n 2, 1) := by decide +kernel
theorem dX2_takeAllBack_2 : decode cX2_takeAllBack 2 = .ok (.iload_n 2, 1) := by decide +kernel
theorem dX2_takeAllBack_3 : decode cX2_takeAllBack 3 = .ok (.ifCond .lt 23, 3) := by decide +kernel
theorem dX2_takeAllBack_6 : decode cX2_takeAllBack 6 = .ok (.aload_n 0, 1) := by decide +kernel
theorem dX2_takeAllBack_7 : decode cX2_takeAllBack 7 = .ok (.getfield 21, 3) := by decide +kernel
theorem dX2_takeAllBack_10 : decode cX2_takeAllBack 10 = .ok (.iload_n 2, 1) := by decide +kernel
theorem dX2_takeAllBack_11 : decode cX2_takeAllBack 11 = .ok (.baload, 1) := by decide +kernel
theorem dX2_takeAllBack_12 : decode cX2_takeAllBack 12 = .ok (.ifCond .eq 8, 3) := by decide +kernel
theorem dX2_takeAllBack_15 : decode cX2_takeAllBack 15 = .ok (.aload_n 0, 1) := by decide +kernel
theorem dX2_takeAllBack_16 : decode cX2_takeAllBack 16 = .ok (.iload_n 2, 1) := by decide +kernel
theorem dX2_takeAllBack_17 : decode cX2_takeAllBack 17 = .ok (.invokevirtual 125, 3) := by decide +kernel
theorem dX2_takeAllBack_20 : decode cX2_takeAllBack 20 = .ok (.iinc 2 (-1), 3) := by decide +kernel
theorem dX2_takeAllBack_23 : decode cX2_takeAllBack 23 = .ok (.goto (-21), 3) := by decide +kernel
theorem dX2_takeAllBack_26 : decode cX2_takeAllBack 26 = .ok (.return_, 1) := by decide +kernel
theorem dX2_takeBack_0 : decode cX2_takeBack 0 = .ok (.aload_n 0, 1) := by decide +kernel
theorem dX2_takeBack_1 : decode cX2_takeBack 1 = .ok (.getfield 15, 3) := by decide +kernel
theorem dX2_takeBack_4 : decode cX2_takeBack 4 = .ok (.iload_n 1, 1) := by decide +kernel
theorem dX2_takeBack_5 : decode cX2_takeBack 5 = .ok (.iaload, 1) := by decide +kernel
theorem dX2_takeBack_6 : decode cX2_takeBack 6 = .ok (.istore_n 2, 1) := by decide +kernel
theorem dX2_takeBack_7 : decode cX2_takeBack 7 = .ok (.aload_n 0, 1) := by decide +kernel
theorem dX2_takeBack_8 : decode cX2_takeBack 8 = .ok (.getfield 9, 3) := by decide +kernel
theorem dX2_takeBack_11 : decode cX2_takeBack 11 = .ok (.iload_n 1, 1) := by decide +kernel
theorem dX2_takeBack_12 : decode cX2_takeBack 12 = .ok (.iaload, 1) := by decide +kernel
theorem dX2_takeBack_13 : decode cX2_takeBack 13 = .ok (.lookupswitch 78 #[(0, 27), (1, 44)], 27) := by decide +kernel
theorem dX2_takeBack_40 : decode cX2_takeBack 40 = .ok (.aload_n 0, 1) := by decide +kernel
theorem dX2_takeBack_41 : decode cX2_takeBack 41 = .ok (.getfield 41, 3) := by decide +kernel
theorem dX2_takeBack_44 : decode cX2_takeBack 44 = .ok (.iload_n 2, 1) := by decide +kernel
theorem dX2_takeBack_45 : decode cX2_takeBack 45 = .ok (.aload_n 0, 1) := by decide +kernel
theorem dX2_takeBack_46 : decode cX2_takeBack 46 = .ok (.getfield 25, 3) := by decide +kernel
theorem dX2_takeBack_49 : decode cX2_takeBack 49 = .ok (.iload_n 1, 1) := by decide +kernel
theorem dX2_takeBack_50 : decode cX2_takeBack 50 = .ok (.iaload, 1) := by decide +kernel
theorem dX2_takeBack_51 : decode cX2_takeBack 51 = .ok (.invokevirtual 121, 3) := by decide +kernel
theorem dX2_takeBack_54 : decode cX2_takeBack 54 = .ok (.goto 51, 3) := by decide +kernel
theorem dX2_takeBack_57 : decode cX2_takeBack 57 = .ok (.aload_n 0, 1) := by decide +kernel
theorem dX2_takeBack_58 : decode cX2_takeBack 58 = .ok (.getfield 41, 3) := by decide +kernel
theorem dX2_takeBack_61 : decode cX2_takeBack 61 = .ok (.iload_n 2, 1) := by decide +kernel
theorem dX2_takeBack_62 : decode cX2_takeBack 62 = .ok (.aload_n 0, 1) := by decide +kernel
theorem dX2_takeBack_63 : decode cX2_takeBack 63 = .ok (.getfield 25, 3) := by decide +kernel
theorem dX2_takeBack_66 : decode cX2_takeBack 66 = .ok (.iload_n 1, 1) := by decide +kernel
theorem dX2_takeBack_67 : decode cX2_takeBack 67 = .ok (.iaload, 1) := by decide +kernel
theorem dX2_takeBack_68 : decode cX2_takeBack 68 = .ok (.aload_n 0, 1) := by decide +kernel
theorem dX2_takeBack_69 : decode cX2_takeBack 69 = .ok (.getfield 18, 3) := by decide +kernel
theorem dX2_takeBack_72 : decode cX2_takeBack 72 = .ok (.iload_n 1, 1) := by decide +kernel
theorem dX2_takeBack_73 : decode cX2_takeBack 73 = .ok (.iconst 4, 1) := by decide +kernel
theorem dX2_takeBack_74 : decode cX2_takeBack 74 = .ok (.imul, 1) := by decide +kernel
theorem dX2_takeBack_75 : decode cX2_takeBack 75 = .ok (.iconst 1, 1) := by decide +kernel
theorem dX2_takeBack_76 : decode cX2_takeBack 76 = .ok (.iadd, 1) := by decide +kernel
theorem dX2_takeBack_77 : decode cX2_takeBack 77 = .ok (.iaload, 1) := by decide +kernel
theorem dX2_takeBack_78 : decode cX2_takeBack 78 = .ok (.aload_n 0, 1) := by decide +kernel
theorem dX2_takeBack_79 : decode cX2_takeBack 79 = .ok (.getfield 28, 3) := by decide +kernel
theorem dX2_takeBack_82 : decode cX2_takeBack 82 = .ok (.iload_n 1, 1) := by decide +kernel
theorem dX2_takeBack_83 : decode cX2_takeBack 83 = .ok (.iaload, 1) := by decide +kernel
theorem dX2_takeBack_84 : decode cX2_takeBack 84 = .ok (.invokevirtual 109, 3) := by decide +kernel
theorem dX2_takeBack_87 : decode cX2_takeBack 87 = .ok (.pop, 1) := by decide +kernel
theorem dX2_takeBack_88 : decode cX2_takeBack 88 = .ok (.goto 17, 3) := by decide +kernel
theorem dX2_takeBack_91 : decode cX2_takeBack 91 = .ok (.aload_n 0, 1) := by decide +kernel
theorem dX2_takeBack_92 : decode cX2_takeBack 92 = .ok (.getfield 41, 3) := by decide +kernel
theorem dX2_takeBack_95 : decode cX2_takeBack 95 = .ok (.iload_n 2, 1) := by decide +kernel
theorem dX2_takeBack_96 : decode cX2_takeBack 96 = .ok (.aload_n 0, 1) := by decide +kernel
theorem dX2_takeBack_97 : decode cX2_takeBack 97 = .ok (.getfield 33, 3) := by decide +kernel
theorem dX2_takeBack_100 : decode cX2_takeBack 100 = .ok (.iload_n 1, 1) := by decide +kernel
theorem dX2_takeBack_101 : decode cX2_takeBack 101 = .ok (.aaload, 1) := by decide +kernel
theorem dX2_takeBack_102 : decode cX2_takeBack 102 = .ok (.invokevirtual 128, 3) := by decide +kernel
theorem dX2_takeBack_105 : decode cX2_takeBack 105 = .ok (.return_, 1) := by decide +kernel
theorem dX3_init_0 : decode cX3_init 0 = .ok (.aload_n 0, 1) := by decide +kernel
theorem dX3_init_1 : decode cX3_init 1 = .ok (.invokespecial 3, 3) := by decide +kernel
theorem dX3_init_4 : decode cX3_init 4 = .ok (.aload_n 0, 1) := by decide +kernel
theorem dX3_init_5 : decode cX3_init 5 = .ok (.bipush 6, 2) := by decide +kernel
theorem dX3_init_7 : decode cX3_init 7 = .ok (.anewarray 9, 3) := by decide +kernel
theorem dX3_init_10 : decode cX3_init 10 = .ok (.putfield 11, 3) := by decide +kernel
theorem dX3_init_13 : decode cX3_init 13 = .ok (.aload_n 0, 1) := by decide +kernel
theorem dX3_init_14 : decode cX3_init 14 = .ok (.iconst 3, 1) := by decide +kernel
theorem dX3_init_15 : decode cX3_init 15 = .ok (.newarray .int, 2) := by decide +kernel
theorem dX3_init_17 : decode cX3_init 17 = .ok (.putfield 17, 3) := by decide +kernel
theorem dX3_init_20 : decode cX3_init 20 = .ok (.aload_n 0, 1) := by decide +kernel
theorem dX3_init_21 : decode cX3_init 21 = .ok (.iconst 3, 1) := by decide +kernel
theorem dX3_init_22 : decode cX3_init 22 = .ok (.newarray .int, 2) := by decide +kernel
theorem dX3_init_24 : decode cX3_init 24 = .ok (.putfield 21, 3) := by decide +kernel
theorem dX3_init_27 : decode cX3_init 27 = .ok (.aload_n 0, 1) := by decide +kernel
theorem dX3_init_28 : decode cX3_init 28 = .ok (.aload_n 1, 1) := by decide +kernel
theorem dX3_init_29 : decode cX3_init 29 = .ok (.putfield 24, 3) := by decide +kernel
theorem dX3_init_32 : decode cX3_init 32 = .ok (.iconst 0, 1) := by decide +kernel
theorem dX3_init_33 : decode cX3_init 33 = .ok (.istore_n 2, 1) := by decide +kernel
theorem dX3_init_34 : decode cX3_init 34 = .ok (.iload_n 2, 1) := by decide +kernel
theorem dX3_init_35 : decode cX3_init 35 = .ok (.bipush 6, 2) := by decide +kernel
theorem dX3_init_37 : decode cX3_init 37 = .ok (.if_icmp .ge 22, 3) := by decide +kernel
theorem dX3_init_40 : decode cX3_init 40 = .ok (.aload_n 0, 1) := by decide +kernel
theorem dX3_init_41 : decode cX3_init 41 = .ok (.getfield 11, 3) := by decide +kernel
theorem dX3_init_44 : decode cX3_init 44 = .ok (.iload_n 2, 1) := by decide +kernel
theorem dX3_init_45 : decode cX3_init 45 = .ok (.new 9, 3) := by decide +kernel
theorem dX3_init_48 : decode cX3_init 48 = .ok (.dup, 1) := by decide +kernel
theorem dX3_init_49 : decode cX3_init 49 = .ok (.invokespecial 28, 3) := by decide +kernel
theorem dX3_init_52 : decode cX3_init 52 = .ok (.aastore, 1) := by decide +kernel
theorem dX3_init_53 : decode cX3_init 53 = .ok (.iinc 2 1, 3) := by decide +kernel
theorem dX3_init_56 : decode cX3_init 56 = .ok (.goto (-22), 3) := by decide +kernel
theorem dX3_init_59 : decode cX3_init 59 = .ok (.iconst 0, 1) := by decide +kernel
theorem dX3_init_60 : decode cX3_init 60 = .ok (.istore_n 2, 1) := by decide +kernel
theorem dX3_init_61 : decode cX3_init 61 = .ok (.iload_n 2, 1) := by decide +kernel
theorem dX3_init_62 : decode cX3_init 62 = .ok (.iconst 3, 1) := by decide +kernel
theorem dX3_init_63 : decode cX3_init 63 = .ok (.if_icmp .ge 17, 3) := by decide +kernel
theorem dX3_init_66 : decode cX3_init 66 = .ok (.aload_n 0, 1) := by decide +kernel
theorem dX3_init_67 : decode cX3_init 67 = .ok (.getfield 21, 3) := by decide +kernel
theorem dX3_init_70 : decode cX3_init 70 = .ok (.iload_n 2, 1) := by decide +kernel
theorem dX3_init_71 : decode cX3_init 71 = .ok (.bipush 60, 2) := by decide +kernel
theorem dX3_init_73 : decode cX3_init 73 = .ok (.iastore, 1) := by decide +kernel
theorem dX3_init_74 : decode cX3_init 74 = .ok (.iinc 2 1, 3) := by decide +kernel
theorem dX3_init_77 : decode cX3_init 77 = .ok (.goto (-16), 3) := by decide +kernel
theorem dX3_init_80 : decode cX3_init 80 = .ok (.return_, 1) := by decide +kernel
theorem dX3_sweep_0 : decode cX3_sweep 0 = .ok (.iconst 0, 1) := by decide +kernel
theorem dX3_sweep_1 : decode cX3_sweep 1 = .ok (.istore_n 1, 1) := by decide +kernel
theorem dX3_sweep_2 : decode cX3_sweep 2 = .ok (.iconst 0, 1) := by decide +kernel
theorem dX3_sweep_3 : decode cX3_sweep 3 = .ok (.istore_n 2, 1) := by decide +kernel
theorem dX3_sweep_4 : decode cX3_sweep 4 = .ok (.iload_n 2, 1) := by decide +kernel
theorem dX3_sweep_5 : decode cX3_sweep 5 = .ok (.aload_n 0, 1) := by decide +kernel
theorem dX3_sweep_6 : decode cX3_sweep 6 = .ok (.getfield 29, 3) := by decide +kernel
theorem dX3_sweep_9 : decode cX3_sweep 9 = .ok (.if_icmp .ge 76, 3) := by decide +kernel
theorem dX3_sweep_12 : decode cX3_sweep 12 = .ok (.aload_n 0, 1) := by decide +kernel
theorem dX3_sweep_13 : decode cX3_sweep 13 = .ok (.getfield 11, 3) := by decide +kernel
theorem dX3_sweep_16 : decode cX3_sweep 16 = .ok (.iload_n 2, 1) := by decide +kernel
theorem dX3_sweep_17 : decode cX3_sweep 17 = .ok (.aaload, 1) := by decide +kernel
theorem dX3_sweep_18 : decode cX3_sweep 18 = .ok (.astore_n 3, 1) := by decide +kernel
theorem dX3_sweep_19 : decode cX3_sweep 19 = .ok (.aload_n 3, 1) := by decide +kernel
theorem dX3_sweep_20 : decode cX3_sweep 20 = .ok (.getfield 33, 3) := by decide +kernel
theorem dX3_sweep_23 : decode cX3_sweep 23 = .ok (.aload_n 0, 1) := by decide +kernel
theorem dX3_sweep_24 : decode cX3_sweep 24 = .ok (.getfield 24, 3) := by decide +kernel
theorem dX3_sweep_27 : decode cX3_sweep 27 = .ok (.getfield 36, 3) := by decide +kernel
theorem dX3_sweep_30 : decode cX3_sweep 30 = .ok (.if_icmp .le 49, 3) := by decide +kernel
theorem dX3_sweep_33 : decode cX3_sweep 33 = .ok (.aload_n 0, 1) := by decide +kernel
theorem dX3_sweep_34 : decode cX3_sweep 34 = .ok (.getfield 24, 3) := by decide +kernel
theorem dX3_sweep_37 : decode cX3_sweep 37 = .ok (.getfield 36, 3) := by decide +kernel
theorem dX3_sweep_40 : decode cX3_sweep 40 = .ok (.aload_n 3, 1) := by decide +kernel
theorem dX3_sweep_41 : decode cX3_sweep 41 = .ok (.getfield 41, 3) := by decide +kernel
theorem dX3_sweep_44 : decode cX3_sweep 44 = .ok (.isub, 1) := by decide +kernel
theorem dX3_sweep_45 : decode cX3_sweep 45 = .ok (.aload_n 0, 1) := by decide +kernel
theorem dX3_sweep_46 : decode cX3_sweep 46 = .ok (.getfield 21, 3) := by decide +kernel
theorem dX3_sweep_49 : decode cX3_sweep 49 = .ok (.aload_n 3, 1) := by decide +kernel
theorem dX3_sweep_50 : decode cX3_sweep 50 = .ok (.getfield 44, 3) := by decide +kernel
theorem dX3_sweep_53 : decode cX3_sweep 53 = .ok (.iaload, 1) := by decide +kernel
theorem dX3_sweep_54 : decode cX3_sweep 54 = .ok (.if_icmp .gt 25, 3) := by decide +kernel
theorem dX3_sweep_57 : decode cX3_sweep 57 = .ok (.aload_n 0, 1) := by decide +kernel
theorem dX3_sweep_58 : decode cX3_sweep 58 = .ok (.getfield 11, 3) := by decide +kernel
theorem dX3_sweep_61 : decode cX3_sweep 61 = .ok (.iload_n 2, 1) := by decide +kernel
theorem dX3_sweep_62 : decode cX3_sweep 62 = .ok (.aload_n 0, 1) := by decide +kernel
theorem dX3_sweep_63 : decode cX3_sweep 63 = .ok (.getfield 11, 3) := by decide +kernel
theorem dX3_sweep_66 : decode cX3_sweep 66 = .ok (.iload_n 1, 1) := by decide +kernel
theorem dX3_sweep_67 : decode cX3_sweep 67 = .ok (.aaload, 1) := by decide +kernel
theorem dX3_sweep_68 : decode cX3_sweep 68 = .ok (.aastore, 1) := by decide +kernel
theorem dX3_sweep_69 : decode cX3_sweep 69 = .ok (.aload_n 0, 1) := by decide +kernel
theorem dX3_sweep_70 : decode cX3_sweep 70 = .ok (.getfield 11, 3) := by decide +kernel
theorem dX3_sweep_73 : decode cX3_sweep 73 = .ok (.iload_n 1, 1) := by decide +kernel
theorem dX3_sweep_74 : decode cX3_sweep 74 = .ok (.aload_n 3, 1) := by decide +kernel
theorem dX3_sweep_75 : decode cX3_sweep 75 = .ok (.aastore, 1) := by decide +kernel
theorem dX3_sweep_76 : decode cX3_sweep 76 = .ok (.iinc 1 1, 3) := by decide +kernel
theorem dX3_sweep_79 : decode cX3_sweep 79 = .ok (.iinc 2 1, 3) := by decide +kernel
theorem dX3_sweep_82 : decode cX3_sweep 82 = .ok (.goto (-78), 3) := by decide +kernel
theorem dX3_sweep_85 : decode cX3_sweep 85 = .ok (.aload_n 0, 1) := by decide +kernel
theorem dX3_sweep_86 : decode cX3_sweep 86 = .ok (.iload_n 1, 1) := by decide +kernel
theorem dX3_sweep_87 : decode cX3_sweep 87 = .ok (.putfield 29, 3) := by decide +kernel
theorem dX3_sweep_90 : decode cX3_sweep 90 = .ok (.return_, 1) := by decide +kernel
theorem dX3_hear_0 : decode cX3_hear 0 = .ok (.iconst 0, 1) := by decide +kernel
theorem dX3_hear_1 : decode cX3_hear 1 = .ok (.istore_n 2, 1) := by decide +kernel
theorem dX3_hear_2 : decode cX3_hear 2 = .ok (.iload_n 2, 1) := by decide +kernel
theorem dX3_hear_3 : decode cX3_hear 3 = .ok (.aload_n 0, 1) := by decide +kernel
theorem dX3_hear_4 : decode cX3_hear 4 = .ok (.getfield 29, 3) := by decide +kernel
theorem dX3_hear_7 : decode cX3_hear 7 = .ok (.if_icmp .ge 72, 3) := by decide +kernel
theorem dX3_hear_10 : decode cX3_hear 10 = .ok (.aload_n 0, 1) := by decide +kernel
theorem dX3_hear_11 : decode cX3_hear 11 = .ok (.getfield 11, 3) := by decide +kernel
theorem dX3_hear_14 : decode cX3_hear 14 = .ok (.iload_n 2, 1) := by decide +kernel
theorem dX3_hear_15 : decode cX3_hear 15 = .ok (.aaload, 1) := by decide +kernel
theorem dX3_hear_16 : decode cX3_hear 16 = .ok (.astore_n 3, 1) := by decide +kernel
theorem dX3_hear_17 : decode cX3_hear 17 = .ok (.aload_n 3, 1) := by decide +kernel
theorem dX3_hear_18 : decode cX3_hear 18 = .ok (.getfield 47, 3) := by decide +kernel
theorem dX3_hear_21 : decode cX3_hear 21 = .ok (.iload_n 1, 1) := by decide +kernel
theorem dX3_hear_22 : decode cX3_hear 22 = .ok (.if_icmp .ne 51, 3) := by decide +kernel
theorem dX3_hear_25 : decode cX3_hear 25 = .ok (.aload_n 3, 1) := by decide +kernel
theorem dX3_hear_26 : decode cX3_hear 26 = .ok (.aload_n 3, 1) := by decide +kernel
theorem dX3_hear_27 : decode cX3_hear 27 = .ok (.getfield 50, 3) := by decide +kernel
theorem dX3_hear_30 : decode cX3_hear 30 = .ok (.aload_n 0, 1) := by decide +kernel
theorem dX3_hear_31 : decode cX3_hear 31 = .ok (.getfield 24, 3) := by decide +kernel
theorem dX3_hear_34 : decode cX3_hear 34 = .ok (.getfield 53, 3) := by decide +kernel
theorem dX3_hear_37 : decode cX3_hear 37 = .ok (.iconst 1, 1) := by decide +kernel
theorem dX3_hear_38 : decode cX3_hear 38 = .ok (.isub, 1) := by decide +kernel
theorem dX3_hear_39 : decode cX3_hear 39 = .ok (.invokestatic 56, 3) := by decide +kernel
theorem dX3_hear_42 : decode cX3_hear 42 = .ok (.putfield 50, 3) := by decide +kernel
theorem dX3_hear_45 : decode cX3_hear 45 = .ok (.aload_n 3, 1) := by decide +kernel
theorem dX3_hear_46 : decode cX3_hear 46 = .ok (.aload_n 3, 1) := by decide +kernel
theorem dX3_hear_47 : decode cX3_hear 47 = .ok (.getfield 33, 3) := by decide +kernel
theorem dX3_hear_50 : decode cX3_hear 50 = .ok (.aload_n 0, 1) := by decide +kernel
theorem dX3_hear_51 : decode cX3_hear 51 = .ok (.getfield 24, 3) := by decide +kernel
theorem dX3_hear_54 : decode cX3_hear 54 = .ok (.getfield 36, 3) := by decide +kernel
theorem dX3_hear_57 : decode cX3_hear 57 = .ok (.aload_n 0, 1) := by decide +kernel
theorem dX3_hear_58 : decode cX3_hear 58 = .ok (.getfield 17, 3) := by decide +kernel
theorem dX3_hear_61 : decode cX3_hear 61 = .ok (.aload_n 3, 1) := by decide +kernel
theorem dX3_hear_62 : decode cX3_hear 62 = .ok (.getfield 44, 3) := by decide +kernel
theorem dX3_hear_65 : decode cX3_hear 65 = .ok (.iaload, 1) := by decide +kernel
theorem dX3_hear_66 : decode cX3_hear 66 = .ok (.iadd, 1) := by decide +kernel
theorem dX3_hear_67 : decode cX3_hear 67 = .ok (.invokestatic 56, 3) := by decide +kernel
theorem dX3_hear_70 : decode cX3_hear 70 = .ok (.putfield 33, 3) := by decide +kernel
theorem dX3_hear_73 : decode cX3_hear 73 = .ok (.iinc 2 1, 3) := by decide +kernel
theorem dX3_hear_76 : decode cX3_hear 76 = .ok (.goto (-74), 3) := by decide +kernel
theorem dX3_hear_79 : decode cX3_hear 79 = .ok (.return_, 1) := by decide +kernel
theorem dX3_serving_0 : decode cX3_serving 0 = .ok (.aload_n 0, 1) := by decide +kernel
theorem dX3_serving_1 : decode cX3_serving 1 = .ok (.getfield 29, 3) := by decide +kernel
theorem dX3_serving_4 : decode cX3_serving 4 = .ok (.iconst 1, 1) := by decide +kernel
theorem dX3_serving_5 : decode cX3_serving 5 = .ok (.isub, 1) := by decide +kernel
theorem dX3_serving_6 : decode cX3_serving 6 = .ok (.istore 4, 2) := by decide +kernel
theorem dX3_serving_8 : decode cX3_serving 8 = .ok (.iload 4, 2) := by decide +kernel
theorem dX3_serving_10 : decode cX3_serving 10 = .ok (.ifCond .lt 62, 3) := by decide +kernel
theorem dX3_serving_13 : decode cX3_serving 13 = .ok (.aload_n 0, 1) := by decide +kernel
theorem dX3_serving_14 : decode cX3_serving 14 = .ok (.getfield 11, 3) := by decide +kernel
theorem dX3_serving_17 : decode cX3_serving 17 = .ok (.iload 4, 2) := by decide +kernel
theorem dX3_serving_19 : decode cX3_serving 19 = .ok (.aaload, 1) := by decide +kernel
theorem dX3_serving_20 : decode cX3_serving 20 = .ok (.astore 5, 2) := by decide +kernel
theorem dX3_serving_22 : decode cX3_serving 22 = .ok (.aload 5, 2) := by decide +kernel
theorem dX3_serving_24 : decode cX3_serving 24 = .ok (.getfield 47, 3) := by decide +kernel
theorem dX3_serving_27 : decode cX3_serving 27 = .ok (.aload_n 1, 1) := by decide +kernel
theorem dX3_serving_28 : decode cX3_serving 28 = .ok (.getfield 62, 3) := by decide +kernel
theorem dX3_serving_31 : decode cX3_serving 31 = .ok (.iload_n 2, 1) := by decide +kernel
theorem dX3_serving_32 : decode cX3_serving 32 = .ok (.iaload, 1) := by decide +kernel
theorem dX3_serving_33 : decode cX3_serving 33 = .ok (.if_icmp .ne 33, 3) := by decide +kernel
theorem dX3_serving_36 : decode cX3_serving 36 = .ok (.aload_n 0, 1) := by decide +kernel
theorem dX3_serving_37 : decode cX3_serving 37 = .ok (.getfield 24, 3) := by decide +kernel
theorem dX3_serving_40 : decode cX3_serving 40 = .ok (.getfield 36, 3) := by decide +kernel
theorem dX3_serving_43 : decode cX3_serving 43 = .ok (.aload 5, 2) := by decide +kernel
theorem dX3_serving_45 : decode cX3_serving 45 = .ok (.getfield 41, 3) := by decide +kernel
theorem dX3_serving_48 : decode cX3_serving 48 = .ok (.isub, 1) := by decide +kernel
theorem dX3_serving_49 : decode cX3_serving 49 = .ok (.iload_n 3, 1) := by decide +kernel
theorem dX3_serving_50 : decode cX3_serving 50 = .ok (.if_icmp .gt 16, 3) := by decide +kernel
theorem dX3_serving_53 : decode cX3_serving 53 = .ok (.aload 5, 2) := by decide +kernel
theorem dX3_serving_55 : decode cX3_serving 55 = .ok (.aload_n 1, 1) := by decide +kernel
theorem dX3_serving_56 : decode cX3_serving 56 = .ok (.iload_n 2, 1) := by decide +kernel
theorem dX3_serving_57 : decode cX3_serving 57 = .ok (.invokevirtual 67, 3) := by decide +kernel
theorem dX3_serving_60 : decode cX3_serving 60 = .ok (.ifCond .eq 6, 3) := by decide +kernel
theorem dX3_serving_63 : decode cX3_serving 63 = .ok (.aload 5, 2) := by decide +kernel
theorem dX3_serving_65 : decode cX3_serving 65 = .ok (.areturn, 1) := by decide +kernel
theorem dX3_serving_66 : decode cX3_serving 66 = .ok (.iinc 4 (-1), 3) := by decide +kernel
theorem dX3_serving_69 : decode cX3_serving 69 = .ok (.goto (-61), 3) := by decide +kernel
theorem dX3_serving_72 : decode cX3_serving 72 = .ok (.aconst_null, 1) := by decide +kernel
theorem dX3_serving_73 : decode cX3_serving 73 = .ok (.areturn, 1) := by decide +kernel
theorem dX3_keep_0 : decode cX3_keep 0 = .ok (.aload_n 0, 1) := by decide +kernel
theorem dX3_keep_1 : decode cX3_keep 1 = .ok (.invokevirtual 71, 3) := by decide +kernel
theorem dX3_keep_4 : decode cX3_keep 4 = .ok (.astore 5, 2) := by decide +kernel
theorem dX3_keep_6 : decode cX3_keep 6 = .ok (.aload 5, 2) := by decide +kernel
theorem dX3_keep_8 : decode cX3_keep 8 = .ok (.aload_n 1, 1) := by decide +kernel
theorem dX3_keep_9 : decode cX3_keep 9 = .ok (.getfield 62, 3) := by decide +kernel
theorem dX3_keep_12 : decode cX3_keep 12 = .ok (.iload_n 2, 1) := by decide +kernel
theorem dX3_keep_13 : decode cX3_keep 13 = .ok (.iaload, 1) := by decide +kernel
theorem dX3_keep_14 : decode cX3_keep 14 = .ok (.putfield 47, 3) := by decide +kernel
theorem dX3_keep_17 : decode cX3_keep 17 = .ok (.aload 5, 2) := by decide +kernel
theorem dX3_keep_19 : decode cX3_keep 19 = .ok (.aload 5, 2) := by decide +kernel
theorem dX3_keep_21 : decode cX3_keep 21 = .ok (.getfield 47, 3) := by decide +kernel
theorem dX3_keep_24 : decode cX3_keep 24 = .ok (.invokestatic 75, 3) := by decide +kernel
theorem dX3_keep_27 : decode cX3_keep 27 = .ok (.putfield 44, 3) := by decide +kernel
theorem dX3_keep_30 : decode cX3_keep 30 = .ok (.aload 5, 2) := by decide +kernel
theorem dX3_keep_32 : decode cX3_keep 32 = .ok (.aload_n 0, 1) := by decide +kernel
theorem dX3_keep_33 : decode cX3_keep 33 = .ok (.getfield 24, 3) := by decide +kernel
theorem dX3_keep_36 : decode cX3_keep 36 = .ok (.getfield 36, 3) := by decide +kernel
theorem dX3_keep_39 : decode cX3_keep 39 = .ok (.putfield 41, 3) := by decide +kernel
theorem dX3_keep_42 : decode cX3_keep 42 = .ok (.aload 5, 2) := by decide +kernel
theorem dX3_keep_44 : decode cX3_keep 44 = .ok (.iload 4, 2) := by decide +kernel
theorem dX3_keep_46 : decode cX3_keep 46 = .ok (.putfield 79, 3) := by decide +kernel
theorem dX3_keep_49 : decode cX3_keep 49 = .ok (.aload 5, 2) := by decide +kernel
theorem dX3_keep_51 : decode cX3_keep 51 = .ok (.ldc 82, 2) := by decide +kernel
theorem dX3_keep_53 : decode cX3_keep 53 = .ok (.putfield 50, 3) := by decide +kernel
theorem dX3_keep_56 : decode cX3_keep 56 = .ok (.aload 5, 2) := by decide +kernel
theorem dX3_keep_58 : decode cX3_keep 58 = .ok (.ldc 82, 2) := by decide +kernel
theorem dX3_keep_60 : decode cX3_keep 60 = .ok (.putfield 33, 3) := by decide +kernel
theorem dX3_keep_63 : decode cX3_keep 63 = .ok (.aload 5, 2) := by decide +kernel
theorem dX3_keep_65 : decode cX3_keep 65 = .ok (.getfield 83, 3) := by decide +kernel
theorem dX3_keep_68 : decode cX3_keep 68 = .ok (.aload_n 3, 1) := by decide +kernel
theorem dX3_keep_69 : decode cX3_keep 69 = .ok (.invokevirtual 87, 3) := by decide +kernel
theorem dX3_keep_72 : decode cX3_keep 72 = .ok (.aload 5, 2) := by decide +kernel
theorem dX3_keep_74 : decode cX3_keep 74 = .ok (.aload_n 1, 1) := by decide +kernel
theorem dX3_keep_75 : decode cX3_keep 75 = .ok (.iload_n 2, 1) := by decide +kernel
theorem dX3_keep_76 : decode cX3_keep 76 = .ok (.invokevirtual 93, 3) := by decide +kernel
theorem dX3_keep_79 : decode cX3_keep 79 = .ok (.return_, 1) := by decide +kernel
theorem dX3_nextEntry_0 : decode cX3_nextEntry 0 = .ok (.aload_n 0, 1) := by decide +kernel
theorem dX3_nextEntry_1 : decode cX3_nextEntry 1 = .ok (.getfield 29, 3) := by decide +kernel
theorem dX3_nextEntry_4 : decode cX3_nextEntry 4 = .ok (.bipush 6, 2) := by decide +kernel
theorem dX3_nextEntry_6 : decode cX3_nextEntry 6 = .ok (.if_icmp .ge 25, 3) := by decide +kernel
theorem dX3_nextEntry_9 : decode cX3_nextEntry 9 = .ok (.aload_n 0, 1) := by decide +kernel
theorem dX3_nextEntry_10 : decode cX3_nextEntry 10 = .ok (.dup, 1) := by decide +kernel
theorem dX3_nextEntry_11 : decode cX3_nextEntry 11 = .ok (.getfield 29, 3) := by decide +kernel
theorem dX3_nextEntry_14 : decode cX3_nextEntry 14 = .ok (.iconst 1, 1) := by decide +kernel
theorem dX3_nextEntry_15 : decode cX3_nextEntry 15 = .ok (.iadd, 1) := by decide +kernel
theorem dX3_nextEntry_16 : decode cX3_nextEntry 16 = .ok (.putfield 29, 3) := by decide +kernel
theorem dX3_nextEntry_19 : decode cX3_nextEntry 19 = .ok (.aload_n 0, 1) := by decide +kernel
theorem dX3_nextEntry_20 : decode cX3_nextEntry 20 = .ok (.getfield 11, 3) := by decide +kernel
theorem dX3_nextEntry_23 : decode cX3_nextEntry 23 = .ok (.aload_n 0, 1) := by decide +kernel
theorem dX3_nextEntry_24 : decode cX3_nextEntry 24 = .ok (.getfield 29, 3) := by decide +kernel
theorem dX3_nextEntry_27 : decode cX3_nextEntry 27 = .ok (.iconst 1, 1) := by decide +kernel
theorem dX3_nextEntry_28 : decode cX3_nextEntry 28 = .ok (.isub, 1) := by decide +kernel
theorem dX3_nextEntry_29 : decode cX3_nextEntry 29 = .ok (.aaload, 1) := by decide +kernel
theorem dX3_nextEntry_30 : decode cX3_nextEntry 30 = .ok (.areturn, 1) := by decide +kernel
theorem dX3_nextEntry_31 : decode cX3_nextEntry 31 = .ok (.aload_n 0, 1) := by decide +kernel
theorem dX3_nextEntry_32 : decode cX3_nextEntry 32 = .ok (.getfield 11, 3) := by decide +kernel
theorem dX3_nextEntry_35 : decode cX3_nextEntry 35 = .ok (.iconst 0, 1) := by decide +kernel
theorem dX3_nextEntry_36 : decode cX3_nextEntry 36 = .ok (.aaload, 1) := by decide +kernel
theorem dX3_nextEntry_37 : decode cX3_nextEntry 37 = .ok (.astore_n 1, 1) := by decide +kernel
theorem dX3_nextEntry_38 : decode cX3_nextEntry 38 = .ok (.iconst 1, 1) := by decide +kernel
theorem dX3_nextEntry_39 : decode cX3_nextEntry 39 = .ok (.istore_n 2, 1) := by decide +kernel
theorem dX3_nextEntry_40 : decode cX3_nextEntry 40 = .ok (.iload_n 2, 1) := by decide +kernel
theorem dX3_nextEntry_41 : decode cX3_nextEntry 41 = .ok (.bipush 6, 2) := by decide +kernel
theorem dX3_nextEntry_43 : decode cX3_nextEntry 43 = .ok (.if_icmp .ge 23, 3) := by decide +kernel
theorem dX3_nextEntry_46 : decode cX3_nextEntry 46 = .ok (.aload_n 0, 1) := by decide +kernel
theorem dX3_nextEntry_47 : decode cX3_nextEntry 47 = .ok (.getfield 11, 3) := by decide +kernel
theorem dX3_nextEntry_50 : decode cX3_nextEntry 50 = .ok (.iload_n 2, 1) := by decide +kernel
theorem dX3_nextEntry_51 : decode cX3_nextEntry 51 = .ok (.iconst 1, 1) := by decide +kernel
theorem dX3_nextEntry_52 : decode cX3_nextEntry 52 = .ok (.isub, 1) := by decide +kernel
theorem dX3_nextEntry_53 : decode cX3_nextEntry 53 = .ok (.aload_n 0, 1) := by decide +kernel
theorem dX3_nextEntry_54 : decode cX3_nextEntry 54 = .ok (.getfield 11, 3) := by decide +kernel
theorem dX3_nextEntry_57 : decode cX3_nextEntry 57 = .ok (.iload_n 2, 1) := by decide +kernel
theorem dX3_nextEntry_58 : decode cX3_nextEntry 58 = .ok (.aaload, 1) := by decide +kernel
theorem dX3_nextEntry_59 : decode cX3_nextEntry 59 = .ok (.aastore, 1) := by decide +kernel
theorem dX3_nextEntry_60 : decode cX3_nextEntry 60 = .ok (.iinc 2 1, 3) := by decide +kernel
theorem dX3_nextEntry_63 : decode cX3_nextEntry 63 = .ok (.goto (-23), 3) := by decide +kernel
theorem dX3_nextEntry_66 : decode cX3_nextEntry 66 = .ok (.aload_n 0, 1) := by decide +kernel
theorem dX3_nextEntry_67 : decode cX3_nextEntry 67 = .ok (.getfield 11, 3) := by decide +kernel
theorem dX3_nextEntry_70 : decode cX3_nextEntry 70 = .ok (.iconst 5, 1) := by decide +kernel
theorem dX3_nextEntry_71 : decode cX3_nextEntry 71 = .ok (.aload_n 1, 1) := by decide +kernel
theorem dX3_nextEntry_72 : decode cX3_nextEntry 72 = .ok (.aastore, 1) := by decide +kernel
theorem dX3_nextEntry_73 : decode cX3_nextEntry 73 = .ok (.aload_n 1, 1) := by decide +kernel
theorem dX3_nextEntry_74 : decode cX3_nextEntry 74 = .ok (.areturn, 1) := by decide +kernel
theorem dX4_init_0 : decode cX4_init 0 = .ok (.aload_n 0, 1) := by decide +kernel
theorem dX4_init_1 : decode cX4_init 1 = .ok (.invokespecial 3, 3) := by decide +kernel
theorem dX4_init_4 : decode cX4_init 4 = .ok (.aload_n 0, 1) := by decide +kernel
theorem dX4_init_5 : decode cX4_init 5 = .ok (.iconst 3, 1) := by decide +kernel
theorem dX4_init_6 : decode cX4_init 6 = .ok (.newarray .int, 2) := by decide +kernel
theorem dX4_init_8 : decode cX4_init 8 = .ok (.putfield 9, 3) := by decide +kernel
theorem dX4_init_11 : decode cX4_init 11 = .ok (.aload_n 0, 1) := by decide +kernel
theorem dX4_init_12 : decode cX4_init 12 = .ok (.bipush 6, 2) := by decide +kernel
theorem dX4_init_14 : decode cX4_init 14 = .ok (.newarray .int, 2) := by decide +kernel
theorem dX4_init_16 : decode cX4_init 16 = .ok (.putfield 15, 3) := by decide +kernel
theorem dX4_init_19 : decode cX4_init 19 = .ok (.aload_n 0, 1) := by decide +kernel
theorem dX4_init_20 : decode cX4_init 20 = .ok (.bipush 6, 2) := by decide +kernel
theorem dX4_init_22 : decode cX4_init 22 = .ok (.newarray .int, 2) := by decide +kernel
theorem dX4_init_24 : decode cX4_init 24 = .ok (.putfield 18, 3) := by decide +kernel
theorem dX4_init_27 : decode cX4_init 27 = .ok (.aload_n 0, 1) := by decide +kernel
theorem dX4_init_28 : decode cX4_init 28 = .ok (.iconst 4, 1) := by decide +kernel
theorem dX4_init_29 : decode cX4_init 29 = .ok (.newarray .int, 2) := by decide +kernel
theorem dX4_init_31 : decode cX4_init 31 = .ok (.putfield 21, 3) := by decide +kernel
theorem dX4_init_34 : decode cX4_init 34 = .ok (.aload_n 0, 1) := by decide +kernel
theorem dX4_init_35 : decode cX4_init 35 = .ok (.iconst 4, 1) := by decide +kernel
theorem dX4_init_36 : decode cX4_init 36 = .ok (.newarray .int, 2) := by decide +kernel
theorem dX4_init_38 : decode cX4_init 38 = .ok (.putfield 24, 3) := by decide +kernel
theorem dX4_init_41 : decode cX4_init 41 = .ok (.aload_n 0, 1) := by decide +kernel
theorem dX4_init_42 : decode cX4_init 42 = .ok (.iconst 4, 1) := by decide +kernel
theorem dX4_init_43 : decode cX4_init 43 = .ok (.newarray .int, 2) := by decide +kernel
theorem dX4_init_45 : decode cX4_init 45 = .ok (.putfield 27, 3) := by decide +kernel
theorem dX4_init_48 : decode cX4_init 48 = .ok (.aload_n 0, 1) := by decide +kernel
theorem dX4_init_49 : decode cX4_init 49 = .ok (.iconst 4, 1) := by decide +kernel
theorem dX4_init_50 : decode cX4_init 50 = .ok (.newarray .int, 2) := by decide +kernel
theorem dX4_init_52 : decode cX4_init 52 = .ok (.putfield 30, 3) := by decide +kernel
theorem dX4_init_55 : decode cX4_init 55 = .ok (.aload_n 0, 1) := by decide +kernel
theorem dX4_init_56 : decode cX4_init 56 = .ok (.iconst 3, 1) := by decide +kernel
theorem dX4_init_57 : decode cX4_init 57 = .ok (.newarray .int, 2) := by decide +kernel
theorem dX4_init_59 : decode cX4_init 59 = .ok (.putfield 33, 3) := by decide +kernel
theorem dX4_init_62 : decode cX4_init 62 = .ok (.aload_n 0, 1) := by decide +kernel
theorem dX4_init_63 : decode cX4_init 63 = .ok (.iconst 3, 1) := by decide +kernel
theorem dX4_init_64 : decode cX4_init 64 = .ok (.newarray .int, 2) := by decide +kernel
theorem dX4_init_66 : decode cX4_init 66 = .ok (.putfield 36, 3) := by decide +kernel
theorem dX4_init_69 : decode cX4_init 69 = .ok (.aload_n 0, 1) := by decide +kernel
theorem dX4_init_70 : decode cX4_init 70 = .ok (.bipush 40, 2) := by decide +kernel
theorem dX4_init_72 : decode cX4_init 72 = .ok (.putfield 39, 3) := by decide +kernel
theorem dX4_init_75 : decode cX4_init 75 = .ok (.return_, 1) := by decide +kernel
theorem dX4_hasColumn_0 : decode cX4_hasColumn 0 = .ok (.iload_n 1, 1) := by decide +kernel
theorem dX4_hasColumn_1 : decode cX4_hasColumn 1 = .ok (.ifCond .lt 35, 3) := by decide +kernel
theorem dX4_hasColumn_4 : decode cX4_hasColumn 4 = .ok (.iload_n 1, 1) := by decide +kernel
theorem dX4_hasColumn_5 : decode cX4_hasColumn 5 = .ok (.aload_n 0, 1) := by decide +kernel
theorem dX4_hasColumn_6 : decode cX4_hasColumn 6 = .ok (.getfield 43, 3) := by decide +kernel
