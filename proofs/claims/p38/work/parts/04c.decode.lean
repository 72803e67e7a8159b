theorem dX10_holdsFor_86 : decode cX10_holdsFor 86 = .ok (.iconst 1, 1) := by decide +kernel
theorem dX10_holdsFor_87 : decode cX10_holdsFor 87 = .ok (.goto 4, 3) := by decide +kernel
theorem dX10_holdsFor_90 : decode cX10_holdsFor 90 = .ok (.iconst 0, 1) := by decide +kernel
theorem dX10_holdsFor_91 : decode cX10_holdsFor 91 = .ok (.ireturn, 1) := by decide +kernel
theorem dX10_holdsFor_92 : decode cX10_holdsFor 92 = .ok (.iload_n 2, 1) := by decide +kernel
theorem dX10_holdsFor_93 : decode cX10_holdsFor 93 = .ok (.sipush 5001, 3) := by decide +kernel
theorem dX10_holdsFor_96 : decode cX10_holdsFor 96 = .ok (.if_icmp .ne 7, 3) := by decide +kernel
theorem dX10_holdsFor_99 : decode cX10_holdsFor 99 = .ok (.iconst 1, 1) := by decide +kernel
theorem dX10_holdsFor_100 : decode cX10_holdsFor 100 = .ok (.goto 4, 3) := by decide +kernel
theorem dX10_holdsFor_103 : decode cX10_holdsFor 103 = .ok (.iconst 0, 1) := by decide +kernel
theorem dX10_holdsFor_104 : decode cX10_holdsFor 104 = .ok (.ireturn, 1) := by decide +kernel
theorem dX10_follows_0 : decode cX10_follows 0 = .ok (.iload_n 0, 1) := by decide +kernel
theorem dX10_follows_1 : decode cX10_follows 1 = .ok (.iload_n 2, 1) := by decide +kernel
theorem dX10_follows_2 : decode cX10_follows 2 = .ok (.if_icmp .ne 10, 3) := by decide +kernel
theorem dX10_follows_5 : decode cX10_follows 5 = .ok (.iload_n 1, 1) := by decide +kernel
theorem dX10_follows_6 : decode cX10_follows 6 = .ok (.iload_n 3, 1) := by decide +kernel
theorem dX10_follows_7 : decode cX10_follows 7 = .ok (.if_icmp .ne 5, 3) := by decide +kernel
theorem dX10_follows_10 : decode cX10_follows 10 = .ok (.iconst 1, 1) := by decide +kernel
theorem dX10_follows_11 : decode cX10_follows 11 = .ok (.ireturn, 1) := by decide +kernel
theorem dX10_follows_12 : decode cX10_follows 12 = .ok (.iload_n 0, 1) := by decide +kernel
theorem dX10_follows_13 : decode cX10_follows 13 = .ok (.iconst 1, 1) := by decide +kernel
theorem dX10_follows_14 : decode cX10_follows 14 = .ok (.if_icmp .ne 28, 3) := by decide +kernel
theorem dX10_follows_17 : decode cX10_follows 17 = .ok (.iload_n 2, 1) := by decide +kernel
theorem dX10_follows_18 : decode cX10_follows 18 = .ok (.iconst 1, 1) := by decide +kernel
theorem dX10_follows_19 : decode cX10_follows 19 = .ok (.if_icmp .ne 8, 3) := by decide +kernel
theorem dX10_follows_22 : decode cX10_follows 22 = .ok (.iload_n 3, 1) := by decide +kernel
theorem dX10_follows_23 : decode cX10_follows 23 = .ok (.iload_n 1, 1) := by decide +kernel
theorem dX10_follows_24 : decode cX10_follows 24 = .ok (.if_icmp .le 12, 3) := by decide +kernel
theorem dX10_follows_27 : decode cX10_follows 27 = .ok (.iload_n 2, 1) := by decide +kernel
theorem dX10_follows_28 : decode cX10_follows 28 = .ok (.ifCond .ne 12, 3) := by decide +kernel
theorem dX10_follows_31 : decode cX10_follows 31 = .ok (.iload_n 3, 1) := by decide +kernel
theorem dX10_follows_32 : decode cX10_follows 32 = .ok (.iload_n 1, 1) := by decide +kernel
theorem dX10_follows_33 : decode cX10_follows 33 = .ok (.if_icmp .ge 7, 3) := by decide +kernel
theorem dX10_follows_36 : decode cX10_follows 36 = .ok (.iconst 1, 1) := by decide +kernel
theorem dX10_follows_37 : decode cX10_follows 37 = .ok (.goto 4, 3) := by decide +kernel
theorem dX10_follows_40 : decode cX10_follows 40 = .ok (.iconst 0, 1) := by decide +kernel
theorem dX10_follows_41 : decode cX10_follows 41 = .ok (.ireturn, 1) := by decide +kernel
theorem dX10_follows_42 : decode cX10_follows 42 = .ok (.iload_n 0, 1) := by decide +kernel
theorem dX10_follows_43 : decode cX10_follows 43 = .ok (.iconst 2, 1) := by decide +kernel
theorem dX10_follows_44 : decode cX10_follows 44 = .ok (.if_icmp .ne 28, 3) := by decide +kernel
theorem dX10_follows_47 : decode cX10_follows 47 = .ok (.iload_n 2, 1) := by decide +kernel
theorem dX10_follows_48 : decode cX10_follows 48 = .ok (.iconst 2, 1) := by decide +kernel
theorem dX10_follows_49 : decode cX10_follows 49 = .ok (.if_icmp .ne 8, 3) := by decide +kernel
theorem dX10_follows_52 : decode cX10_follows 52 = .ok (.iload_n 3, 1) := by decide +kernel
theorem dX10_follows_53 : decode cX10_follows 53 = .ok (.iload_n 1, 1) := by decide +kernel
theorem dX10_follows_54 : decode cX10_follows 54 = .ok (.if_icmp .ge 12, 3) := by decide +kernel
theorem dX10_follows_57 : decode cX10_follows 57 = .ok (.iload_n 2, 1) := by decide +kernel
theorem dX10_follows_58 : decode cX10_follows 58 = .ok (.ifCond .ne 12, 3) := by decide +kernel
theorem dX10_follows_61 : decode cX10_follows 61 = .ok (.iload_n 3, 1) := by decide +kernel
theorem dX10_follows_62 : decode cX10_follows 62 = .ok (.iload_n 1, 1) := by decide +kernel
theorem dX10_follows_63 : decode cX10_follows 63 = .ok (.if_icmp .le 7, 3) := by decide +kernel
theorem dX10_follows_66 : decode cX10_follows 66 = .ok (.iconst 1, 1) := by decide +kernel
theorem dX10_follows_67 : decode cX10_follows 67 = .ok (.goto 4, 3) := by decide +kernel
theorem dX10_follows_70 : decode cX10_follows 70 = .ok (.iconst 0, 1) := by decide +kernel
theorem dX10_follows_71 : decode cX10_follows 71 = .ok (.ireturn, 1) := by decide +kernel
theorem dX10_follows_72 : decode cX10_follows 72 = .ok (.iconst 0, 1) := by decide +kernel
theorem dX10_follows_73 : decode cX10_follows 73 = .ok (.ireturn, 1) := by decide +kernel
theorem dL_number_0 : decode cL_number 0 = .ok (.iload_n 1, 1) := by decide +kernel
theorem dL_number_1 : decode cL_number 1 = .ok (.aload_n 0, 1) := by decide +kernel
theorem dL_number_2 : decode cL_number 2 = .ok (.arraylength, 1) := by decide +kernel
theorem dL_number_3 : decode cL_number 3 = .ok (.if_icmp .ge 9, 3) := by decide +kernel
theorem dL_number_6 : decode cL_number 6 = .ok (.aload_n 0, 1) := by decide +kernel
theorem dL_number_7 : decode cL_number 7 = .ok (.iload_n 1, 1) := by decide +kernel
theorem dL_number_8 : decode cL_number 8 = .ok (.iaload, 1) := by decide +kernel
theorem dL_number_9 : decode cL_number 9 = .ok (.goto 10, 3) := by decide +kernel
theorem dL_number_12 : decode cL_number 12 = .ok (.ldc 7, 2) := by decide +kernel
theorem dL_number_14 : decode cL_number 14 = .ok (.iload_n 1, 1) := by decide +kernel
theorem dL_number_15 : decode cL_number 15 = .ok (.bipush 7, 2) := by decide +kernel
theorem dL_number_17 : decode cL_number 17 = .ok (.iadd, 1) := by decide +kernel
theorem dL_number_18 : decode cL_number 18 = .ok (.imul, 1) := by decide +kernel
theorem dL_number_19 : decode cL_number 19 = .ok (.ireturn, 1) := by decide +kernel
theorem dL_low_0 : decode cL_low 0 = .ok (.iload_n 0, 1) := by decide +kernel
theorem dL_low_1 : decode cL_low 1 = .ok (.iconst 1, 1) := by decide +kernel
theorem dL_low_2 : decode cL_low 2 = .ok (.iushr, 1) := by decide +kernel
theorem dL_low_3 : decode cL_low 3 = .ok (.iload_n 1, 1) := by decide +kernel
theorem dL_low_4 : decode cL_low 4 = .ok (.irem, 1) := by decide +kernel
theorem dL_low_5 : decode cL_low 5 = .ok (.ireturn, 1) := by decide +kernel
theorem dL_add_0 : decode cL_add 0 = .ok (.aload_n 0, 1) := by decide +kernel
theorem dL_add_1 : decode cL_add 1 = .ok (.iload_n 1, 1) := by decide +kernel
theorem dL_add_2 : decode cL_add 2 = .ok (.iload_n 2, 1) := by decide +kernel
theorem dL_add_3 : decode cL_add 3 = .ok (.iload_n 3, 1) := by decide +kernel
theorem dL_add_4 : decode cL_add 4 = .ok (.iload 4, 2) := by decide +kernel
theorem dL_add_6 : decode cL_add 6 = .ok (.iload 5, 2) := by decide +kernel
theorem dL_add_8 : decode cL_add 8 = .ok (.invokevirtual 8, 3) := by decide +kernel
theorem dL_add_11 : decode cL_add 11 = .ok (.istore 6, 2) := by decide +kernel
theorem dL_add_13 : decode cL_add 13 = .ok (.goto 21, 3) := by decide +kernel
theorem dL_add_16 : decode cL_add 16 = .ok (.astore 7, 2) := by decide +kernel
theorem dL_add_18 : decode cL_add 18 = .ok (.sipush (-7100), 3) := by decide +kernel
theorem dL_add_21 : decode cL_add 21 = .ok (.ireturn, 1) := by decide +kernel
theorem dL_add_22 : decode cL_add 22 = .ok (.astore 7, 2) := by decide +kernel
theorem dL_add_24 : decode cL_add 24 = .ok (.sipush (-7200), 3) := by decide +kernel
theorem dL_add_27 : decode cL_add 27 = .ok (.ireturn, 1) := by decide +kernel
theorem dL_add_28 : decode cL_add 28 = .ok (.astore 7, 2) := by decide +kernel
theorem dL_add_30 : decode cL_add 30 = .ok (.sipush (-7300), 3) := by decide +kernel
theorem dL_add_33 : decode cL_add 33 = .ok (.ireturn, 1) := by decide +kernel
theorem dL_add_34 : decode cL_add 34 = .ok (.iload 6, 2) := by decide +kernel
theorem dL_add_36 : decode cL_add 36 = .ok (.ireturn, 1) := by decide +kernel
theorem dL_change_0 : decode cL_change 0 = .ok (.aload_n 0, 1) := by decide +kernel
theorem dL_change_1 : decode cL_change 1 = .ok (.iload_n 1, 1) := by decide +kernel
theorem dL_change_2 : decode cL_change 2 = .ok (.iload_n 2, 1) := by decide +kernel
theorem dL_change_3 : decode cL_change 3 = .ok (.iload_n 3, 1) := by decide +kernel
theorem dL_change_4 : decode cL_change 4 = .ok (.iload 4, 2) := by decide +kernel
theorem dL_change_6 : decode cL_change 6 = .ok (.invokevirtual 20, 3) := by decide +kernel
theorem dL_change_9 : decode cL_change 9 = .ok (.istore 5, 2) := by decide +kernel
theorem dL_change_11 : decode cL_change 11 = .ok (.goto 15, 3) := by decide +kernel
theorem dL_change_14 : decode cL_change 14 = .ok (.astore 6, 2) := by decide +kernel
theorem dL_change_16 : decode cL_change 16 = .ok (.sipush (-7100), 3) := by decide +kernel
theorem dL_change_19 : decode cL_change 19 = .ok (.ireturn, 1) := by decide +kernel
theorem dL_change_20 : decode cL_change 20 = .ok (.astore 6, 2) := by decide +kernel
theorem dL_change_22 : decode cL_change 22 = .ok (.sipush (-7200), 3) := by decide +kernel
theorem dL_change_25 : decode cL_change 25 = .ok (.ireturn, 1) := by decide +kernel
theorem dL_change_26 : decode cL_change 26 = .ok (.iload 5, 2) := by decide +kernel
theorem dL_change_28 : decode cL_change 28 = .ok (.ireturn, 1) := by decide +kernel
theorem dL_remove_0 : decode cL_remove 0 = .ok (.aload_n 0, 1) := by decide +kernel
theorem dL_remove_1 : decode cL_remove 1 = .ok (.iload_n 1, 1) := by decide +kernel
theorem dL_remove_2 : decode cL_remove 2 = .ok (.iload_n 2, 1) := by decide +kernel
theorem dL_remove_3 : decode cL_remove 3 = .ok (.invokevirtual 24, 3) := by decide +kernel
theorem dL_remove_6 : decode cL_remove 6 = .ok (.istore_n 3, 1) := by decide +kernel
theorem dL_remove_7 : decode cL_remove 7 = .ok (.goto 9, 3) := by decide +kernel
theorem dL_remove_10 : decode cL_remove 10 = .ok (.astore 4, 2) := by decide +kernel
theorem dL_remove_12 : decode cL_remove 12 = .ok (.sipush (-7100), 3) := by decide +kernel
theorem dL_remove_15 : decode cL_remove 15 = .ok (.ireturn, 1) := by decide +kernel
theorem dL_remove_16 : decode cL_remove 16 = .ok (.iload_n 3, 1) := by decide +kernel
theorem dL_remove_17 : decode cL_remove 17 = .ok (.ireturn, 1) := by decide +kernel
theorem dL_count_0 : decode cL_count 0 = .ok (.aload_n 0, 1) := by decide +kernel
theorem dL_count_1 : decode cL_count 1 = .ok (.iload_n 1, 1) := by decide +kernel
theorem dL_count_2 : decode cL_count 2 = .ok (.invokevirtual 28, 3) := by decide +kernel
theorem dL_count_5 : decode cL_count 5 = .ok (.istore_n 2, 1) := by decide +kernel
theorem dL_count_6 : decode cL_count 6 = .ok (.goto 8, 3) := by decide +kernel
theorem dL_count_9 : decode cL_count 9 = .ok (.astore_n 3, 1) := by decide +kernel
theorem dL_count_10 : decode cL_count 10 = .ok (.sipush (-7100), 3) := by decide +kernel
theorem dL_count_13 : decode cL_count 13 = .ok (.ireturn, 1) := by decide +kernel
theorem dL_count_14 : decode cL_count 14 = .ok (.iload_n 2, 1) := by decide +kernel
theorem dL_count_15 : decode cL_count 15 = .ok (.ireturn, 1) := by decide +kernel
theorem dL_cellOf_0 : decode cL_cellOf 0 = .ok (.aload_n 0, 1) := by decide +kernel
theorem dL_cellOf_1 : decode cL_cellOf 1 = .ok (.iload_n 1, 1) := by decide +kernel
theorem dL_cellOf_2 : decode cL_cellOf 2 = .ok (.iload_n 2, 1) := by decide +kernel
theorem dL_cellOf_3 : decode cL_cellOf 3 = .ok (.iload_n 3, 1) := by decide +kernel
theorem dL_cellOf_4 : decode cL_cellOf 4 = .ok (.invokevirtual 32, 3) := by decide +kernel
theorem dL_cellOf_7 : decode cL_cellOf 7 = .ok (.istore 4, 2) := by decide +kernel
theorem dL_cellOf_9 : decode cL_cellOf 9 = .ok (.goto 9, 3) := by decide +kernel
theorem dL_cellOf_12 : decode cL_cellOf 12 = .ok (.astore 5, 2) := by decide +kernel
theorem dL_cellOf_14 : decode cL_cellOf 14 = .ok (.sipush (-7100), 3) := by decide +kernel
theorem dL_cellOf_17 : decode cL_cellOf 17 = .ok (.ireturn, 1) := by decide +kernel
theorem dL_cellOf_18 : decode cL_cellOf 18 = .ok (.iload 4, 2) := by decide +kernel
theorem dL_cellOf_20 : decode cL_cellOf 20 = .ok (.ireturn, 1) := by decide +kernel
theorem dL_setPace_0 : decode cL_setPace 0 = .ok (.aload_n 0, 1) := by decide +kernel
theorem dL_setPace_1 : decode cL_setPace 1 = .ok (.iload_n 1, 1) := by decide +kernel
theorem dL_setPace_2 : decode cL_setPace 2 = .ok (.iload_n 2, 1) := by decide +kernel
theorem dL_setPace_3 : decode cL_setPace 3 = .ok (.iload_n 3, 1) := by decide +kernel
theorem dL_setPace_4 : decode cL_setPace 4 = .ok (.invokevirtual 36, 3) := by decide +kernel
theorem dL_setPace_7 : decode cL_setPace 7 = .ok (.istore 4, 2) := by decide +kernel
theorem dL_setPace_9 : decode cL_setPace 9 = .ok (.goto 15, 3) := by decide +kernel
theorem dL_setPace_12 : decode cL_setPace 12 = .ok (.astore 5, 2) := by decide +kernel
theorem dL_setPace_14 : decode cL_setPace 14 = .ok (.sipush (-7100), 3) := by decide +kernel
theorem dL_setPace_17 : decode cL_setPace 17 = .ok (.ireturn, 1) := by decide +kernel
theorem dL_setPace_18 : decode cL_setPace 18 = .ok (.astore 5, 2) := by decide +kernel
theorem dL_setPace_20 : decode cL_setPace 20 = .ok (.sipush (-7200), 3) := by decide +kernel
theorem dL_setPace_23 : decode cL_setPace 23 = .ok (.ireturn, 1) := by decide +kernel
theorem dL_setPace_24 : decode cL_setPace 24 = .ok (.iload 4, 2) := by decide +kernel
theorem dL_setPace_26 : decode cL_setPace 26 = .ok (.ireturn, 1) := by decide +kernel
theorem dL_setBounds_0 : decode cL_setBounds 0 = .ok (.aload_n 0, 1) := by decide +kernel
theorem dL_setBounds_1 : decode cL_setBounds 1 = .ok (.iload_n 1, 1) := by decide +kernel
theorem dL_setBounds_2 : decode cL_setBounds 2 = .ok (.iload_n 2, 1) := by decide +kernel
theorem dL_setBounds_3 : decode cL_setBounds 3 = .ok (.iload_n 3, 1) := by decide +kernel
theorem dL_setBounds_4 : decode cL_setBounds 4 = .ok (.invokevirtual 39, 3) := by decide +kernel
theorem dL_setBounds_7 : decode cL_setBounds 7 = .ok (.istore 4, 2) := by decide +kernel
theorem dL_setBounds_9 : decode cL_setBounds 9 = .ok (.goto 15, 3) := by decide +kernel
theorem dL_setBounds_12 : decode cL_setBounds 12 = .ok (.astore 5, 2) := by decide +kernel
theorem dL_setBounds_14 : decode cL_setBounds 14 = .ok (.sipush (-7100), 3) := by decide +kernel
theorem dL_setBounds_17 : decode cL_setBounds 17 = .ok (.ireturn, 1) := by decide +kernel
theorem dL_setBounds_18 : decode cL_setBounds 18 = .ok (.astore 5, 2) := by decide +kernel
theorem dL_setBounds_20 : decode cL_setBounds 20 = .ok (.sipush (-7200), 3) := by decide +kernel
theorem dL_setBounds_23 : decode cL_setBounds 23 = .ok (.ireturn, 1) := by decide +kernel
theorem dL_setBounds_24 : decode cL_setBounds 24 = .ok (.iload 4, 2) := by decide +kernel
theorem dL_setBounds_26 : decode cL_setBounds 26 = .ok (.ireturn, 1) := by decide +kernel
theorem dL_setLease_0 : decode cL_setLease 0 = .ok (.aload_n 0, 1) := by decide +kernel
theorem dL_setLease_1 : decode cL_setLease 1 = .ok (.iload_n 1, 1) := by decide +kernel
theorem dL_setLease_2 : decode cL_setLease 2 = .ok (.iload_n 2, 1) := by decide +kernel
theorem dL_setLease_3 : decode cL_setLease 3 = .ok (.invokevirtual 42, 3) := by decide +kernel
theorem dL_setLease_6 : decode cL_setLease 6 = .ok (.istore_n 3, 1) := by decide +kernel
theorem dL_setLease_7 : decode cL_setLease 7 = .ok (.goto 15, 3) := by decide +kernel
theorem dL_setLease_10 : decode cL_setLease 10 = .ok (.astore 4, 2) := by decide +kernel
theorem dL_setLease_12 : decode cL_setLease 12 = .ok (.sipush (-7100), 3) := by decide +kernel
theorem dL_setLease_15 : decode cL_setLease 15 = .ok (.ireturn, 1) := by decide +kernel
theorem dL_setLease_16 : decode cL_setLease 16 = .ok (.astore 4, 2) := by decide +kernel
theorem dL_setLease_18 : decode cL_setLease 18 = .ok (.sipush (-7200), 3) := by decide +kernel
theorem dL_setLease_21 : decode cL_setLease 21 = .ok (.ireturn, 1) := by decide +kernel
theorem dL_setLease_22 : decode cL_setLease 22 = .ok (.iload_n 3, 1) := by decide +kernel
theorem dL_setLease_23 : decode cL_setLease 23 = .ok (.ireturn, 1) := by decide +kernel
theorem dL_fail_0 : decode cL_fail 0 = .ok (.aload_n 0, 1) := by decide +kernel
theorem dL_fail_1 : decode cL_fail 1 = .ok (.iload_n 1, 1) := by decide +kernel
theorem dL_fail_2 : decode cL_fail 2 = .ok (.iload_n 2, 1) := by decide +kernel
theorem dL_fail_3 : decode cL_fail 3 = .ok (.iload_n 3, 1) := by decide +kernel
theorem dL_fail_4 : decode cL_fail 4 = .ok (.invokevirtual 45, 3) := by decide +kernel
theorem dL_fail_7 : decode cL_fail 7 = .ok (.istore 4, 2) := by decide +kernel
theorem dL_fail_9 : decode cL_fail 9 = .ok (.goto 15, 3) := by decide +kernel
theorem dL_fail_12 : decode cL_fail 12 = .ok (.astore 5, 2) := by decide +kernel
theorem dL_fail_14 : decode cL_fail 14 = .ok (.sipush (-7100), 3) := by decide +kernel
theorem dL_fail_17 : decode cL_fail 17 = .ok (.ireturn, 1) := by decide +kernel
theorem dL_fail_18 : decode cL_fail 18 = .ok (.astore 5, 2) := by decide +kernel
theorem dL_fail_20 : decode cL_fail 20 = .ok (.sipush (-7200), 3) := by decide +kernel
theorem dL_fail_23 : decode cL_fail 23 = .ok (.ireturn, 1) := by decide +kernel
theorem dL_fail_24 : decode cL_fail 24 = .ok (.iload 4, 2) := by decide +kernel
theorem dL_fail_26 : decode cL_fail 26 = .ok (.ireturn, 1) := by decide +kernel
theorem dL_forbid_0 : decode cL_forbid 0 = .ok (.aload_n 0, 1) := by decide +kernel
theorem dL_forbid_1 : decode cL_forbid 1 = .ok (.iload_n 1, 1) := by decide +kernel
theorem dL_forbid_2 : decode cL_forbid 2 = .ok (.iload_n 2, 1) := by decide +kernel
theorem dL_forbid_3 : decode cL_forbid 3 = .ok (.iload_n 3, 1) := by decide +kernel
theorem dL_forbid_4 : decode cL_forbid 4 = .ok (.invokevirtual 49, 3) := by decide +kernel
theorem dL_forbid_7 : decode cL_forbid 7 = .ok (.istore 4, 2) := by decide +kernel
theorem dL_forbid_9 : decode cL_forbid 9 = .ok (.goto 9, 3) := by decide +kernel
theorem dL_forbid_12 : decode cL_forbid 12 = .ok (.astore 5, 2) := by decide +kernel
theorem dL_forbid_14 : decode cL_forbid 14 = .ok (.sipush (-7100), 3) := by decide +kernel
theorem dL_forbid_17 : decode cL_forbid 17 = .ok (.ireturn, 1) := by decide +kernel
theorem dL_forbid_18 : decode cL_forbid 18 = .ok (.iload 4, 2) := by decide +kernel
theorem dL_forbid_20 : decode cL_forbid 20 = .ok (.ifCond .eq 7, 3) := by decide +kernel
theorem dL_forbid_23 : decode cL_forbid 23 = .ok (.iconst 1, 1) := by decide +kernel
theorem dL_forbid_24 : decode cL_forbid 24 = .ok (.goto 4, 3) := by decide +kernel
theorem dL_forbid_27 : decode cL_forbid 27 = .ok (.iconst 0, 1) := by decide +kernel
theorem dL_forbid_28 : decode cL_forbid 28 = .ok (.ireturn, 1) := by decide +kernel
theorem dL_pass_0 : decode cL_pass 0 = .ok (.aload_n 0, 1) := by decide +kernel
theorem dL_pass_1 : decode cL_pass 1 = .ok (.iload_n 1, 1) := by decide +kernel
theorem dL_pass_2 : decode cL_pass 2 = .ok (.invokevirtual 53, 3) := by decide +kernel
theorem dL_pass_5 : decode cL_pass 5 = .ok (.istore_n 2, 1) := by decide +kernel
theorem dL_pass_6 : decode cL_pass 6 = .ok (.goto 8, 3) := by decide +kernel
theorem dL_pass_9 : decode cL_pass 9 = .ok (.astore_n 3, 1) := by decide +kernel
theorem dL_pass_10 : decode cL_pass 10 = .ok (.sipush (-7200), 3) := by decide +kernel
theorem dL_pass_13 : decode cL_pass 13 = .ok (.ireturn, 1) := by decide +kernel
theorem dL_pass_14 : decode cL_pass 14 = .ok (.iload_n 2, 1) := by decide +kernel
theorem dL_pass_15 : decode cL_pass 15 = .ok (.ireturn, 1) := by decide +kernel
theorem dL_seat_0 : decode cL_seat 0 = .ok (.aload_n 0, 1) := by decide +kernel
theorem dL_seat_1 : decode cL_seat 1 = .ok (.iload_n 1, 1) := by decide +kernel
theorem dL_seat_2 : decode cL_seat 2 = .ok (.invokevirtual 56, 3) := by decide +kernel
theorem dL_seat_5 : decode cL_seat 5 = .ok (.istore_n 2, 1) := by decide +kernel
theorem dL_seat_6 : decode cL_seat 6 = .ok (.goto 13, 3) := by decide +kernel
theorem dL_seat_9 : decode cL_seat 9 = .ok (.astore_n 3, 1) := by decide +kernel
theorem dL_seat_10 : decode cL_seat 10 = .ok (.sipush (-7100), 3) := by decide +kernel
theorem dL_seat_13 : decode cL_seat 13 = .ok (.ireturn, 1) := by decide +kernel
theorem dL_seat_14 : decode cL_seat 14 = .ok (.astore_n 3, 1) := by decide +kernel
theorem dL_seat_15 : decode cL_seat 15 = .ok (.sipush (-7300), 3) := by decide +kernel
theorem dL_seat_18 : decode cL_seat 18 = .ok (.ireturn, 1) := by decide +kernel
theorem dL_seat_19 : decode cL_seat 19 = .ok (.iload_n 2, 1) := by decide +kernel
theorem dL_seat_20 : decode cL_seat 20 = .ok (.ireturn, 1) := by decide +kernel
theorem dL_link_0 : decode cL_link 0 = .ok (.aload_n 0, 1) := by decide +kernel
theorem dL_link_1 : decode cL_link 1 = .ok (.iload_n 1, 1) := by decide +kernel
theorem dL_link_2 : decode cL_link 2 = .ok (.iload_n 2, 1) := by decide +kernel
theorem dL_link_3 : decode cL_link 3 = .ok (.iload_n 3, 1) := by decide +kernel
theorem dL_link_4 : decode cL_link 4 = .ok (.iload 4, 2) := by decide +kernel
theorem dL_link_6 : decode cL_link 6 = .ok (.invokevirtual 59, 3) := by decide +kernel
theorem dL_link_9 : decode cL_link 9 = .ok (.istore 5, 2) := by decide +kernel
theorem dL_link_11 : decode cL_link 11 = .ok (.goto 21, 3) := by decide +kernel
theorem dL_link_14 : decode cL_link 14 = .ok (.astore 6, 2) := by decide +kernel
theorem dL_link_16 : decode cL_link 16 = .ok (.sipush (-7100), 3) := by decide +kernel
theorem dL_link_19 : decode cL_link 19 = .ok (.ireturn, 1) := by decide +kernel
theorem dL_link_20 : decode cL_link 20 = .ok (.astore 6, 2) := by decide +kernel
theorem dL_link_22 : decode cL_link 22 = .ok (.sipush (-7200), 3) := by decide +kernel
theorem dL_link_25 : decode cL_link 25 = .ok (.ireturn, 1) := by decide +kernel
theorem dL_link_26 : decode cL_link 26 = .ok (.astore 6, 2) := by decide +kernel
theorem dL_link_28 : decode cL_link 28 = .ok (.sipush (-7300), 3) := by decide +kernel
theorem dL_link_31 : decode cL_link 31 = .ok (.ireturn, 1) := by decide +kernel
theorem dL_link_32 : decode cL_link 32 = .ok (.iload 5, 2) := by decide +kernel
theorem dL_link_34 : decode cL_link 34 = .ok (.ireturn, 1) := by decide +kernel
theorem dL_where_0 : decode cL_where 0 = .ok (.aload_n 0, 1) := by decide +kernel
theorem dL_where_1 : decode cL_where 1 = .ok (.iload_n 1, 1) := by decide +kernel
theorem dL_where_2 : decode cL_where 2 = .ok (.iload_n 2, 1) := by decide +kernel
theorem dL_where_3 : decode cL_where 3 = .ok (.iload_n 3, 1) := by decide +kernel
theorem dL_where_4 : decode cL_where 4 = .ok (.iload 4, 2) := by decide +kernel
theorem dL_where_6 : decode cL_where 6 = .ok (.invokevirtual 62, 3) := by decide +kernel
theorem dL_where_9 : decode cL_where 9 = .ok (.istore 5, 2) := by decide +kernel
theorem dL_where_11 : decode cL_where 11 = .ok (.goto 21, 3) := by decide +kernel
theorem dL_where_14 : decode cL_where 14 = .ok (.astore 6, 2) := by decide +kernel
theorem dL_where_16 : decode cL_where 16 = .ok (.sipush (-7100), 3) := by decide +kernel
theorem dL_where_19 : decode cL_where 19 = .ok (.ireturn, 1) := by decide +kernel
theorem dL_where_20 : decode cL_where 20 = .ok (.astore 6, 2) := by decide +kernel
theorem dL_where_22 : decode cL_where 22 = .ok (.sipush (-7200), 3) := by decide +kernel
theorem dL_where_25 : decode cL_where 25 = .ok (.ireturn, 1) := by decide +kernel
theorem dL_where_26 : decode cL_where 26 = .ok (.astore 6, 2) := by decide +kernel
theorem dL_where_28 : decode cL_where 28 = .ok (.sipush (-7300), 3) := by decide +kernel
theorem dL_where_31 : decode cL_where 31 = .ok (.ireturn, 1) := by decide +kernel
theorem dL_where_32 : decode cL_where 32 = .ok (.iload 5, 2) := by decide +kernel
theorem dL_where_34 : decode cL_where 34 = .ok (.ireturn, 1) := by decide +kernel
theorem dL_out_0 : decode cL_out 0 = .ok (.aload_n 0, 1) := by decide +kernel
theorem dL_out_1 : decode cL_out 1 = .ok (.iload_n 1, 1) := by decide +kernel
theorem dL_out_2 : decode cL_out 2 = .ok (.iload_n 2, 1) := by decide +kernel
theorem dL_out_3 : decode cL_out 3 = .ok (.invokevirtual 65, 3) := by decide +kernel
theorem dL_out_6 : decode cL_out 6 = .ok (.istore_n 3, 1) := by decide +kernel
theorem dL_out_7 : decode cL_out 7 = .ok (.goto 15, 3) := by decide +kernel
theorem dL_out_10 : decode cL_out 10 = .ok (.astore 4, 2) := by decide +kernel
theorem dL_out_12 : decode cL_out 12 = .ok (.sipush (-7100), 3) := by decide +kernel
theorem dL_out_15 : decode cL_out 15 = .ok (.ireturn, 1) := by decide +kernel
theorem dL_out_16 : decode cL_out 16 = .ok (.astore 4, 2) := by decide +kernel
theorem dL_out_18 : decode cL_out 18 = .ok (.sipush (-7300), 3) := by decide +kernel
theorem dL_out_21 : decode cL_out 21 = .ok (.ireturn, 1) := by decide +kernel
theorem dL_out_22 : decode cL_out 22 = .ok (.iload_n 3, 1) := by decide +kernel
theorem dL_out_23 : decode cL_out 23 = .ok (.ireturn, 1) := by decide +kernel
theorem dL_shape_0 : decode cL_shape 0 = .ok (.aload_n 0, 1) := by decide +kernel
theorem dL_shape_1 : decode cL_shape 1 = .ok (.iload_n 1, 1) := by decide +kernel
theorem dL_shape_2 : decode cL_shape 2 = .ok (.iload_n 2, 1) := by decide +kernel
theorem dL_shape_3 : decode cL_shape 3 = .ok (.invokevirtual 68, 3) := by decide +kernel
theorem dL_shape_6 : decode cL_shape 6 = .ok (.goto 8, 3) := by decide +kernel
theorem dL_shape_9 : decode cL_shape 9 = .ok (.astore_n 3, 1) := by decide +kernel
theorem dL_shape_10 : decode cL_shape 10 = .ok (.sipush (-7200), 3) := by decide +kernel
theorem dL_shape_13 : decode cL_shape 13 = .ok (.ireturn, 1) := by decide +kernel
theorem dL_shape_14 : decode cL_shape 14 = .ok (.iconst 0, 1) := by decide +kernel
theorem dL_shape_15 : decode cL_shape 15 = .ok (.ireturn, 1) := by decide +kernel
theorem dL_ask_0 : decode cL_ask 0 = .ok (.aload_n 0, 1) := by decide +kernel
theorem dL_ask_1 : decode cL_ask 1 = .ok (.iload_n 1, 1) := by decide +kernel
theorem dL_ask_2 : decode cL_ask 2 = .ok (.iload_n 2, 1) := by decide +kernel
theorem dL_ask_3 : decode cL_ask 3 = .ok (.invokevirtual 72, 3) := by decide +kernel
theorem dL_ask_6 : decode cL_ask 6 = .ok (.istore_n 3, 1) := by decide +kernel
theorem dL_ask_7 : decode cL_ask 7 = .ok (.goto 15, 3) := by decide +kernel
theorem dL_ask_10 : decode cL_ask 10 = .ok (.astore 4, 2) := by decide +kernel
theorem dL_ask_12 : decode cL_ask 12 = .ok (.sipush (-7200), 3) := by decide +kernel
theorem dL_ask_15 : decode cL_ask 15 = .ok (.ireturn, 1) := by decide +kernel
theorem dL_ask_16 : decode cL_ask 16 = .ok (.astore 4, 2) := by decide +kernel
theorem dL_ask_18 : decode cL_ask 18 = .ok (.sipush (-7300), 3) := by decide +kernel
theorem dL_ask_21 : decode cL_ask 21 = .ok (.ireturn, 1) := by decide +kernel
theorem dL_ask_22 : decode cL_ask 22 = .ok (.iload_n 3, 1) := by decide +kernel
theorem dL_ask_23 : decode cL_ask 23 = .ok (.ireturn, 1) := by decide +kernel
theorem dL_answer_0 : decode cL_answer 0 = .ok (.aload_n 0, 1) := by decide +kernel
theorem dL_answer_1 : decode cL_answer 1 = .ok (.iload_n 1, 1) := by decide +kernel
theorem dL_answer_2 : decode cL_answer 2 = .ok (.iload_n 2, 1) := by decide +kernel
theorem dL_answer_3 : decode cL_answer 3 = .ok (.invokevirtual 75, 3) := by decide +kernel
theorem dL_answer_6 : decode cL_answer 6 = .ok (.istore_n 3, 1) := by decide +kernel
theorem dL_answer_7 : decode cL_answer 7 = .ok (.goto 9, 3) := by decide +kernel
theorem dL_answer_10 : decode cL_answer 10 = .ok (.astore 4, 2) := by decide +kernel
theorem dL_answer_12 : decode cL_answer 12 = .ok (.sipush (-7100), 3) := by decide +kernel
theorem dL_answer_15 : decode cL_answer 15 = .ok (.ireturn, 1) := by decide +kernel
theorem dL_answer_16 : decode cL_answer 16 = .ok (.iload_n 3, 1) := by decide +kernel
theorem dL_answer_17 : decode cL_answer 17 = .ok (.ireturn, 1) := by decide +kernel
theorem dL_taken_0 : decode cL_taken 0 = .ok (.aload_n 0, 1) := by decide +kernel
theorem dL_taken_1 : decode cL_taken 1 = .ok (.iload_n 1, 1) := by decide +kernel
theorem dL_taken_2 : decode cL_taken 2 = .ok (.invokevirtual 78, 3) := by decide +kernel
theorem dL_taken_5 : decode cL_taken 5 = .ok (.istore_n 2, 1) := by decide +kernel
theorem dL_taken_6 : decode cL_taken 6 = .ok (.goto 8, 3) := by decide +kernel
theorem dL_taken_9 : decode cL_taken 9 = .ok (.astore_n 3, 1) := by decide +kernel
theorem dL_taken_10 : decode cL_taken 10 = .ok (.sipush (-7100), 3) := by decide +kernel
theorem dL_taken_13 : decode cL_taken 13 = .ok (.ireturn, 1) := by decide +kernel
theorem dL_taken_14 : decode cL_taken 14 = .ok (.iload_n 2, 1) := by decide +kernel
theorem dL_taken_15 : decode cL_taken 15 = .ok (.ireturn, 1) := by decide +kernel
theorem dL_size_0 : decode cL_size 0 = .ok (.aload_n 0, 1) := by decide +kernel
theorem dL_size_1 : decode cL_size 1 = .ok (.iload_n 1, 1) := by decide +kernel
theorem dL_size_2 : decode cL_size 2 = .ok (.invokevirtual 81, 3) := by decide +kernel
theorem dL_size_5 : decode cL_size 5 = .ok (.istore_n 2, 1) := by decide +kernel
theorem dL_size_6 : decode cL_size 6 = .ok (.goto 8, 3) := by decide +kernel
theorem dL_size_9 : decode cL_size 9 = .ok (.astore_n 3, 1) := by decide +kernel
theorem dL_size_10 : decode cL_size 10 = .ok (.sipush (-7100), 3) := by decide +kernel
theorem dL_size_13 : decode cL_size 13 = .ok (.ireturn, 1) := by decide +kernel
theorem dL_size_14 : decode cL_size 14 = .ok (.iload_n 2, 1) := by decide +kernel
theorem dL_size_15 : decode cL_size 15 = .ok (.ireturn, 1) := by decide +kernel
theorem dL_answersAnew_0 : decode cL_answersAnew 0 = .ok (.aload_n 0, 1) := by decide +kernel
theorem dL_answersAnew_1 : decode cL_answersAnew 1 = .ok (.invokevirtual 84, 3) := by decide +kernel
theorem dL_answersAnew_4 : decode cL_answersAnew 4 = .ok (.istore_n 1, 1) := by decide +kernel
theorem dL_answersAnew_5 : decode cL_answersAnew 5 = .ok (.goto 8, 3) := by decide +kernel
theorem dL_answersAnew_8 : decode cL_answersAnew 8 = .ok (.astore_n 2, 1) := by decide +kernel
theorem dL_answersAnew_9 : decode cL_answersAnew 9 = .ok (.sipush (-7300), 3) := by decide +kernel
theorem dL_answersAnew_12 : decode cL_answersAnew 12 = .ok (.ireturn, 1) := by decide +kernel
theorem dL_answersAnew_13 : decode cL_answersAnew 13 = .ok (.iload_n 1, 1) := by decide +kernel
theorem dL_answersAnew_14 : decode cL_answersAnew 14 = .ok (.ireturn, 1) := by decide +kernel
theorem dL_answerAnew_0 : decode cL_answerAnew 0 = .ok (.aload_n 0, 1) := by decide +kernel
theorem dL_answerAnew_1 : decode cL_answerAnew 1 = .ok (.iload_n 1, 1) := by decide +kernel
theorem dL_answerAnew_2 : decode cL_answerAnew 2 = .ok (.iload_n 2, 1) := by decide +kernel
theorem dL_answerAnew_3 : decode cL_answerAnew 3 = .ok (.invokevirtual 88, 3) := by decide +kernel
theorem dL_answerAnew_6 : decode cL_answerAnew 6 = .ok (.istore_n 3, 1) := by decide +kernel
theorem dL_answerAnew_7 : decode cL_answerAnew 7 = .ok (.goto 15, 3) := by decide +kernel
theorem dL_answerAnew_10 : decode cL_answerAnew 10 = .ok (.astore 4, 2) := by decide +kernel
theorem dL_answerAnew_12 : decode cL_answerAnew 12 = .ok (.sipush (-7300), 3) := by decide +kernel
theorem dL_answerAnew_15 : decode cL_answerAnew 15 = .ok (.ireturn, 1) := by decide +kernel
theorem dL_answerAnew_16 : decode cL_answerAnew 16 = .ok (.astore 4, 2) := by decide +kernel
theorem dL_answerAnew_18 : decode cL_answerAnew 18 = .ok (.sipush (-7100), 3) := by decide +kernel
theorem dL_answerAnew_21 : decode cL_answerAnew 21 = .ok (.ireturn, 1) := by decide +kernel
theorem dL_answerAnew_22 : decode cL_answerAnew 22 = .ok (.iload_n 3, 1) := by decide +kernel
theorem dL_answerAnew_23 : decode cL_answerAnew 23 = .ok (.ireturn, 1) := by decide +kernel
theorem dL_step_0 : decode cL_step 0 = .ok (.aload_n 0, 1) := by decide +kernel
theorem dL_step_1 : decode cL_step 1 = .ok (.iload_n 1, 1) := by decide +kernel
theorem dL_step_2 : decode cL_step 2 = .ok (.iload_n 2, 1) := by decide +kernel
theorem dL_step_3 : decode cL_step 3 = .ok (.iload_n 3, 1) := by decide +kernel
theorem dL_step_4 : decode cL_step 4 = .ok (.iload 4, 2) := by decide +kernel
theorem dL_step_6 : decode cL_step 6 = .ok (.iload 5, 2) := by decide +kernel
theorem dL_step_8 : decode cL_step 8 = .ok (.iload 6, 2) := by decide +kernel
theorem dL_step_10 : decode cL_step 10 = .ok (.invokevirtual 91, 3) := by decide +kernel
theorem dL_step_13 : decode cL_step 13 = .ok (.istore 7, 2) := by decide +kernel
theorem dL_step_15 : decode cL_step 15 = .ok (.goto 21, 3) := by decide +kernel
theorem dL_step_18 : decode cL_step 18 = .ok (.astore 8, 2) := by decide +kernel
theorem dL_step_20 : decode cL_step 20 = .ok (.sipush (-7100), 3) := by decide +kernel
theorem dL_step_23 : decode cL_step 23 = .ok (.ireturn, 1) := by decide +kernel
theorem dL_step_24 : decode cL_step 24 = .ok (.astore 8, 2) := by decide +kernel
theorem dL_step_26 : decode cL_step 26 = .ok (.sipush (-7200), 3) := by decide +kernel
theorem dL_step_29 : decode cL_step 29 = .ok (.ireturn, 1) := by decide +kernel
theorem dL_step_30 : decode cL_step 30 = .ok (.astore 8, 2) := by decide +kernel
theorem dL_step_32 : decode cL_step 32 = .ok (.sipush (-7300), 3) := by decide +kernel
theorem dL_step_35 : decode cL_step 35 = .ok (.ireturn, 1) := by decide +kernel
theorem dL_step_36 : decode cL_step 36 = .ok (.iload 7, 2) := by decide +kernel
theorem dL_step_38 : decode cL_step 38 = .ok (.ireturn, 1) := by decide +kernel
theorem dL_run_0 : decode cL_run 0 = .ok (.aload_n 0, 1) := by decide +kernel
theorem dL_run_1 : decode cL_run 1 = .ok (.invokevirtual 95, 3) := by decide +kernel
theorem dL_run_4 : decode cL_run 4 = .ok (.istore_n 1, 1) := by decide +kernel
theorem dL_run_5 : decode cL_run 5 = .ok (.goto 8, 3) := by decide +kernel
theorem dL_run_8 : decode cL_run 8 = .ok (.astore_n 2, 1) := by decide +kernel
theorem dL_run_9 : decode cL_run 9 = .ok (.sipush (-7300), 3) := by decide +kernel
theorem dL_run_12 : decode cL_run 12 = .ok (.ireturn, 1) := by decide +kernel
theorem dL_run_13 : decode cL_run 13 = .ok (.iload_n 1, 1) := by decide +kernel
theorem dL_run_14 : decode cL_run 14 = .ok (.ireturn, 1) := by decide +kernel
theorem dL_packed_0 : decode cL_packed 0 = .ok (.iload_n 0, 1) := by decide +kernel
theorem dL_packed_1 : decode cL_packed 1 = .ok (.i2l, 1) := by decide +kernel
theorem dL_packed_2 : decode cL_packed 2 = .ok (.bipush 48, 2) := by decide +kernel
theorem dL_packed_4 : decode cL_packed 4 = .ok (.lshl, 1) := by decide +kernel
theorem dL_packed_5 : decode cL_packed 5 = .ok (.iload_n 1, 1) := by decide +kernel
theorem dL_packed_6 : decode cL_packed 6 = .ok (.invokestatic 98, 3) := by decide +kernel
theorem dL_packed_9 : decode cL_packed 9 = .ok (.i2l, 1) := by decide +kernel
theorem dL_packed_10 : decode cL_packed 10 = .ok (.bipush 36, 2) := by decide +kernel
theorem dL_packed_12 : decode cL_packed 12 = .ok (.lshl, 1) := by decide +kernel
theorem dL_packed_13 : decode cL_packed 13 = .ok (.lor, 1) := by decide +kernel
theorem dL_packed_14 : decode cL_packed 14 = .ok (.iload_n 2, 1) := by decide +kernel
theorem dL_packed_15 : decode cL_packed 15 = .ok (.invokestatic 98, 3) := by decide +kernel
theorem dL_packed_18 : decode cL_packed 18 = .ok (.i2l, 1) := by decide +kernel
theorem dL_packed_19 : decode cL_packed 19 = .ok (.bipush 24, 2) := by decide +kernel
theorem dL_packed_21 : decode cL_packed 21 = .ok (.lshl, 1) := by decide +kernel
theorem dL_packed_22 : decode cL_packed 22 = .ok (.lor, 1) := by decide +kernel
theorem dL_packed_23 : decode cL_packed 23 = .ok (.iload_n 3, 1) := by decide +kernel
theorem dL_packed_24 : decode cL_packed 24 = .ok (.invokestatic 98, 3) := by decide +kernel
theorem dL_packed_27 : decode cL_packed 27 = .ok (.i2l, 1) := by decide +kernel
theorem dL_packed_28 : decode cL_packed 28 = .ok (.bipush 12, 2) := by decide +kernel
theorem dL_packed_30 : decode cL_packed 30 = .ok (.lshl, 1) := by decide +kernel
theorem dL_packed_31 : decode cL_packed 31 = .ok (.lor, 1) := by decide +kernel
theorem dL_packed_32 : decode cL_packed 32 = .ok (.iload 4, 2) := by decide +kernel
theorem dL_packed_34 : decode cL_packed 34 = .ok (.invokestatic 98, 3) := by decide +kernel
theorem dL_packed_37 : decode cL_packed 37 = .ok (.i2l, 1) := by decide +kernel
theorem dL_packed_38 : decode cL_packed 38 = .ok (.lor, 1) := by decide +kernel
theorem dL_packed_39 : decode cL_packed 39 = .ok (.lreturn, 1) := by decide +kernel
theorem dL_code_0 : decode cL_code 0 = .ok (.iload_n 0, 1) := by decide +kernel
theorem dL_code_1 : decode cL_code 1 = .ok (.sipush 5000, 3) := by decide +kernel
theorem dL_code_4 : decode cL_code 4 = .ok (.if_icmp .ne 9, 3) := by decide +kernel
theorem dL_code_7 : decode cL_code 7 = .ok (.sipush 2000, 3) := by decide +kernel
theorem dL_code_10 : decode cL_code 10 = .ok (.goto 21, 3) := by decide +kernel
theorem dL_code_13 : decode cL_code 13 = .ok (.iload_n 0, 1) := by decide +kernel
theorem dL_code_14 : decode cL_code 14 = .ok (.sipush 5001, 3) := by decide +kernel
theorem dL_code_17 : decode cL_code 17 = .ok (.if_icmp .ne 9, 3) := by decide +kernel
theorem dL_code_20 : decode cL_code 20 = .ok (.sipush 2001, 3) := by decide +kernel
theorem dL_code_23 : decode cL_code 23 = .ok (.goto 8, 3) := by decide +kernel
theorem dL_code_26 : decode cL_code 26 = .ok (.iload_n 0, 1) := by decide +kernel
theorem dL_code_27 : decode cL_code 27 = .ok (.sipush 1000, 3) := by decide +kernel
theorem dL_code_30 : decode cL_code 30 = .ok (.iadd, 1) := by decide +kernel
theorem dL_code_31 : decode cL_code 31 = .ok (.ireturn, 1) := by decide +kernel
theorem dL_at_0 : decode cL_at 0 = .ok (.lload_n 0, 1) := by decide +kernel
theorem dL_at_1 : decode cL_at 1 = .ok (.bipush 36, 2) := by decide +kernel
theorem dL_at_3 : decode cL_at 3 = .ok (.bipush 12, 2) := by decide +kernel
theorem dL_at_5 : decode cL_at 5 = .ok (.iload_n 2, 1) := by decide +kernel
theorem dL_at_6 : decode cL_at 6 = .ok (.imul, 1) := by decide +kernel
theorem dL_at_7 : decode cL_at 7 = .ok (.isub, 1) := by decide +kernel
theorem dL_at_8 : decode cL_at 8 = .ok (.lshr, 1) := by decide +kernel
theorem dL_at_9 : decode cL_at 9 = .ok (.ldc2_w 103, 3) := by decide +kernel
theorem dL_at_12 : decode cL_at 12 = .ok (.land, 1) := by decide +kernel
theorem dL_at_13 : decode cL_at 13 = .ok (.l2i, 1) := by decide +kernel
theorem dL_at_14 : decode cL_at 14 = .ok (.istore_n 3, 1) := by decide +kernel
theorem dL_at_15 : decode cL_at 15 = .ok (.iload_n 3, 1) := by decide +kernel
theorem dL_at_16 : decode cL_at 16 = .ok (.sipush 2000, 3) := by decide +kernel
theorem dL_at_19 : decode cL_at 19 = .ok (.if_icmp .ne 9, 3) := by decide +kernel
theorem dL_at_22 : decode cL_at 22 = .ok (.sipush 5000, 3) := by decide +kernel
theorem dL_at_25 : decode cL_at 25 = .ok (.goto 21, 3) := by decide +kernel
theorem dL_at_28 : decode cL_at 28 = .ok (.iload_n 3, 1) := by decide +kernel
theorem dL_at_29 : decode cL_at 29 = .ok (.sipush 2001, 3) := by decide +kernel
theorem dL_at_32 : decode cL_at 32 = .ok (.if_icmp .ne 9, 3) := by decide +kernel
theorem dL_at_35 : decode cL_at 35 = .ok (.sipush 5001, 3) := by decide +kernel
theorem dL_at_38 : decode cL_at 38 = .ok (.goto 8, 3) := by decide +kernel
theorem dL_at_41 : decode cL_at 41 = .ok (.iload_n 3, 1) := by decide +kernel
theorem dL_at_42 : decode cL_at 42 = .ok (.sipush 1000, 3) := by decide +kernel
theorem dL_at_45 : decode cL_at 45 = .ok (.isub, 1) := by decide +kernel
theorem dL_at_46 : decode cL_at 46 = .ok (.ireturn, 1) := by decide +kernel
theorem dL_markOf_0 : decode cL_markOf 0 = .ok (.lload_n 0, 1) := by decide +kernel
theorem dL_markOf_1 : decode cL_markOf 1 = .ok (.bipush 48, 2) := by decide +kernel
theorem dL_markOf_3 : decode cL_markOf 3 = .ok (.lshr, 1) := by decide +kernel
theorem dL_markOf_4 : decode cL_markOf 4 = .ok (.l2i, 1) := by decide +kernel
theorem dL_markOf_5 : decode cL_markOf 5 = .ok (.ireturn, 1) := by decide +kernel
theorem dL_isNumber_0 : decode cL_isNumber 0 = .ok (.iload_n 0, 1) := by decide +kernel
theorem dL_isNumber_1 : decode cL_isNumber 1 = .ok (.sipush (-999), 3) := by decide +kernel
theorem dL_isNumber_4 : decode cL_isNumber 4 = .ok (.if_icmp .lt 14, 3) := by decide +kernel
theorem dL_isNumber_7 : decode cL_isNumber 7 = .ok (.iload_n 0, 1) := by decide +kernel
theorem dL_isNumber_8 : decode cL_isNumber 8 = .ok (.sipush 999, 3) := by decide +kernel
theorem dL_isNumber_11 : decode cL_isNumber 11 = .ok (.if_icmp .gt 7, 3) := by decide +kernel
theorem dL_isNumber_14 : decode cL_isNumber 14 = .ok (.iconst 1, 1) := by decide +kernel
theorem dL_isNumber_15 : decode cL_isNumber 15 = .ok (.goto 4, 3) := by decide +kernel
theorem dL_isNumber_18 : decode cL_isNumber 18 = .ok (.iconst 0, 1) := by decide +kernel
theorem dL_isNumber_19 : decode cL_isNumber 19 = .ok (.ireturn, 1) := by decide +kernel
theorem dL_place_0 : decode cL_place 0 = .ok (.iconst 0, 1) := by decide +kernel
theorem dL_place_1 : decode cL_place 1 = .ok (.istore 4, 2) := by decide +kernel
theorem dL_place_3 : decode cL_place 3 = .ok (.iload 4, 2) := by decide +kernel
theorem dL_place_5 : decode cL_place 5 = .ok (.aload_n 1, 1) := by decide +kernel
theorem dL_place_6 : decode cL_place 6 = .ok (.iload_n 2, 1) := by decide +kernel
theorem dL_place_7 : decode cL_place 7 = .ok (.iaload, 1) := by decide +kernel
theorem dL_place_8 : decode cL_place 8 = .ok (.if_icmp .ge 28, 3) := by decide +kernel
theorem dL_place_11 : decode cL_place 11 = .ok (.aload_n 0, 1) := by decide +kernel
theorem dL_place_12 : decode cL_place 12 = .ok (.bipush 10, 2) := by decide +kernel
theorem dL_place_14 : decode cL_place 14 = .ok (.iload_n 2, 1) := by decide +kernel
theorem dL_place_15 : decode cL_place 15 = .ok (.imul, 1) := by decide +kernel
theorem dL_place_16 : decode cL_place 16 = .ok (.iload 4, 2) := by decide +kernel
theorem dL_place_18 : decode cL_place 18 = .ok (.iadd, 1) := by decide +kernel
theorem dL_place_19 : decode cL_place 19 = .ok (.laload, 1) := by decide +kernel
theorem dL_place_20 : decode cL_place 20 = .ok (.invokestatic 105, 3) := by decide +kernel
theorem dL_place_23 : decode cL_place 23 = .ok (.iload_n 3, 1) := by decide +kernel
theorem dL_place_24 : decode cL_place 24 = .ok (.if_icmp .ne 6, 3) := by decide +kernel
theorem dL_place_27 : decode cL_place 27 = .ok (.iload 4, 2) := by decide +kernel
theorem dL_place_29 : decode cL_place 29 = .ok (.ireturn, 1) := by decide +kernel
theorem dL_place_30 : decode cL_place 30 = .ok (.iinc 4 1, 3) := by decide +kernel
theorem dL_place_33 : decode cL_place 33 = .ok (.goto (-30), 3) := by decide +kernel
theorem dL_place_36 : decode cL_place 36 = .ok (.iconst (-1), 1) := by decide +kernel
theorem dL_place_37 : decode cL_place 37 = .ok (.ireturn, 1) := by decide +kernel
theorem dL_can_0 : decode cL_can 0 = .ok (.iload_n 0, 1) := by decide +kernel
theorem dL_can_1 : decode cL_can 1 = .ok (.iconst 2, 1) := by decide +kernel
theorem dL_can_2 : decode cL_can 2 = .ok (.idiv, 1) := by decide +kernel
theorem dL_can_3 : decode cL_can 3 = .ok (.iconst 1, 1) := by decide +kernel
theorem dL_can_4 : decode cL_can 4 = .ok (.if_icmp .ne 18, 3) := by decide +kernel
theorem dL_can_7 : decode cL_can 7 = .ok (.iload_n 1, 1) := by decide +kernel
theorem dL_can_8 : decode cL_can 8 = .ok (.iconst 1, 1) := by decide +kernel
theorem dL_can_9 : decode cL_can 9 = .ok (.if_icmp .le 13, 3) := by decide +kernel
theorem dL_can_12 : decode cL_can 12 = .ok (.iload_n 2, 1) := by decide +kernel
theorem dL_can_13 : decode cL_can 13 = .ok (.ifCond .ne 7, 3) := by decide +kernel
theorem dL_can_16 : decode cL_can 16 = .ok (.iconst 1, 1) := by decide +kernel
theorem dL_can_17 : decode cL_can 17 = .ok (.goto 4, 3) := by decide +kernel
theorem dL_can_20 : decode cL_can 20 = .ok (.iconst 0, 1) := by decide +kernel
theorem dL_can_21 : decode cL_can 21 = .ok (.ireturn, 1) := by decide +kernel
theorem dL_can_22 : decode cL_can 22 = .ok (.iload_n 0, 1) := by decide +kernel
theorem dL_can_23 : decode cL_can 23 = .ok (.iconst 1, 1) := by decide +kernel
theorem dL_can_24 : decode cL_can 24 = .ok (.if_icmp .le 23, 3) := by decide +kernel
theorem dL_can_27 : decode cL_can 27 = .ok (.iload_n 1, 1) := by decide +kernel
theorem dL_can_28 : decode cL_can 28 = .ok (.ifCond .ne 19, 3) := by decide +kernel
theorem dL_can_31 : decode cL_can 31 = .ok (.iload_n 2, 1) := by decide +kernel
theorem dL_can_32 : decode cL_can 32 = .ok (.ifCond .lt 13, 3) := by decide +kernel
theorem dL_can_35 : decode cL_can 35 = .ok (.iload_n 2, 1) := by decide +kernel
theorem dL_can_36 : decode cL_can 36 = .ok (.bipush 100, 2) := by decide +kernel
theorem dL_can_38 : decode cL_can 38 = .ok (.if_icmp .ge 7, 3) := by decide +kernel
theorem dL_can_41 : decode cL_can 41 = .ok (.iconst 1, 1) := by decide +kernel
theorem dL_can_42 : decode cL_can 42 = .ok (.goto 4, 3) := by decide +kernel
theorem dL_can_45 : decode cL_can 45 = .ok (.iconst 0, 1) := by decide +kernel
theorem dL_can_46 : decode cL_can 46 = .ok (.ireturn, 1) := by decide +kernel
theorem dL_can_47 : decode cL_can 47 = .ok (.iload_n 2, 1) := by decide +kernel
theorem dL_can_48 : decode cL_can 48 = .ok (.invokestatic 109, 3) := by decide +kernel
theorem dL_can_51 : decode cL_can 51 = .ok (.ifCond .ne 22, 3) := by decide +kernel
theorem dL_can_54 : decode cL_can 54 = .ok (.iload_n 2, 1) := by decide +kernel
theorem dL_can_55 : decode cL_can 55 = .ok (.sipush 5000, 3) := by decide +kernel
theorem dL_can_58 : decode cL_can 58 = .ok (.if_icmp .eq 15, 3) := by decide +kernel
theorem dL_can_61 : decode cL_can 61 = .ok (.iload_n 0, 1) := by decide +kernel
theorem dL_can_62 : decode cL_can 62 = .ok (.iconst 3, 1) := by decide +kernel
theorem dL_can_63 : decode cL_can 63 = .ok (.if_icmp .le 14, 3) := by decide +kernel
theorem dL_can_66 : decode cL_can 66 = .ok (.iload_n 2, 1) := by decide +kernel
theorem dL_can_67 : decode cL_can 67 = .ok (.sipush 5001, 3) := by decide +kernel
theorem dL_can_70 : decode cL_can 70 = .ok (.if_icmp .ne 7, 3) := by decide +kernel
theorem dL_can_73 : decode cL_can 73 = .ok (.iconst 1, 1) := by decide +kernel
theorem dL_can_74 : decode cL_can 74 = .ok (.goto 4, 3) := by decide +kernel
theorem dL_can_77 : decode cL_can 77 = .ok (.iconst 0, 1) := by decide +kernel
theorem dL_can_78 : decode cL_can 78 = .ok (.ireturn, 1) := by decide +kernel
theorem dL_columns_0 : decode cL_columns 0 = .ok (.iload_n 0, 1) := by decide +kernel
theorem dL_columns_1 : decode cL_columns 1 = .ok (.iconst 2, 1) := by decide +kernel
theorem dL_columns_2 : decode cL_columns 2 = .ok (.idiv, 1) := by decide +kernel
theorem dL_columns_3 : decode cL_columns 3 = .ok (.iconst 1, 1) := by decide +kernel
theorem dL_columns_4 : decode cL_columns 4 = .ok (.if_icmp .ne 7, 3) := by decide +kernel
theorem dL_columns_7 : decode cL_columns 7 = .ok (.iconst 2, 1) := by decide +kernel
theorem dL_columns_8 : decode cL_columns 8 = .ok (.goto 4, 3) := by decide +kernel
theorem dL_columns_11 : decode cL_columns 11 = .ok (.iconst 4, 1) := by decide +kernel
theorem dL_columns_12 : decode cL_columns 12 = .ok (.ireturn, 1) := by decide +kernel
theorem dL_age_0 : decode cL_age 0 = .ok (.iconst 0, 1) := by decide +kernel
theorem dL_age_1 : decode cL_age 1 = .ok (.istore 5, 2) := by decide +kernel
theorem dL_age_3 : decode cL_age 3 = .ok (.iconst 0, 1) := by decide +kernel
theorem dL_age_4 : decode cL_age 4 = .ok (.istore 6, 2) := by decide +kernel
theorem dL_age_6 : decode cL_age 6 = .ok (.iload 6, 2) := by decide +kernel
theorem dL_age_8 : decode cL_age 8 = .ok (.aload 4, 2) := by decide +kernel
theorem dL_age_10 : decode cL_age 10 = .ok (.iconst 3, 1) := by decide +kernel
theorem dL_age_11 : decode cL_age 11 = .ok (.iaload, 1) := by decide +kernel
theorem dL_age_12 : decode cL_age 12 = .ok (.if_icmp .ge 198, 3) := by decide +kernel
theorem dL_age_15 : decode cL_age 15 = .ok (.aload 4, 2) := by decide +kernel
theorem dL_age_17 : decode cL_age 17 = .ok (.iconst 1, 1) := by decide +kernel
theorem dL_age_18 : decode cL_age 18 = .ok (.iaload, 1) := by decide +kernel
theorem dL_age_19 : decode cL_age 19 = .ok (.aload_n 0, 1) := by decide +kernel
theorem dL_age_20 : decode cL_age 20 = .ok (.bipush 8, 2) := by decide +kernel
theorem dL_age_22 : decode cL_age 22 = .ok (.iload 6, 2) := by decide +kernel
theorem dL_age_24 : decode cL_age 24 = .ok (.imul, 1) := by decide +kernel
theorem dL_age_25 : decode cL_age 25 = .ok (.iconst 1, 1) := by decide +kernel
theorem dL_age_26 : decode cL_age 26 = .ok (.iadd, 1) := by decide +kernel
theorem dL_age_27 : decode cL_age 27 = .ok (.iaload, 1) := by decide +kernel
theorem dL_age_28 : decode cL_age 28 = .ok (.isub, 1) := by decide +kernel
theorem dL_age_29 : decode cL_age 29 = .ok (.aload_n 3, 1) := by decide +kernel
theorem dL_age_30 : decode cL_age 30 = .ok (.bipush 12, 2) := by decide +kernel
theorem dL_age_32 : decode cL_age 32 = .ok (.aload_n 0, 1) := by decide +kernel
theorem dL_age_33 : decode cL_age 33 = .ok (.bipush 8, 2) := by decide +kernel
theorem dL_age_35 : decode cL_age 35 = .ok (.iload 6, 2) := by decide +kernel
theorem dL_age_37 : decode cL_age 37 = .ok (.imul, 1) := by decide +kernel
theorem dL_age_38 : decode cL_age 38 = .ok (.iaload, 1) := by decide +kernel
theorem dL_age_39 : decode cL_age 39 = .ok (.iconst 2, 1) := by decide +kernel
theorem dL_age_40 : decode cL_age 40 = .ok (.idiv, 1) := by decide +kernel
theorem dL_age_41 : decode cL_age 41 = .ok (.iadd, 1) := by decide +kernel
theorem dL_age_42 : decode cL_age 42 = .ok (.iaload, 1) := by decide +kernel
theorem dL_age_43 : decode cL_age 43 = .ok (.if_icmp .le 7, 3) := by decide +kernel
theorem dL_age_46 : decode cL_age 46 = .ok (.iconst 1, 1) := by decide +kernel
theorem dL_age_47 : decode cL_age 47 = .ok (.goto 4, 3) := by decide +kernel
theorem dL_age_50 : decode cL_age 50 = .ok (.iconst 0, 1) := by decide +kernel
theorem dL_age_51 : decode cL_age 51 = .ok (.istore 7, 2) := by decide +kernel
theorem dL_age_53 : decode cL_age 53 = .ok (.aload_n 0, 1) := by decide +kernel
theorem dL_age_54 : decode cL_age 54 = .ok (.bipush 8, 2) := by decide +kernel
theorem dL_age_56 : decode cL_age 56 = .ok (.iload 6, 2) := by decide +kernel
theorem dL_age_58 : decode cL_age 58 = .ok (.imul, 1) := by decide +kernel
theorem dL_age_59 : decode cL_age 59 = .ok (.iconst 2, 1) := by decide +kernel
theorem dL_age_60 : decode cL_age 60 = .ok (.iadd, 1) := by decide +kernel
theorem dL_age_61 : decode cL_age 61 = .ok (.iaload, 1) := by decide +kernel
theorem dL_age_62 : decode cL_age 62 = .ok (.iconst 1, 1) := by decide +kernel
theorem dL_age_63 : decode cL_age 63 = .ok (.iadd, 1) := by decide +kernel
theorem dL_age_64 : decode cL_age 64 = .ok (.istore 8, 2) := by decide +kernel
theorem dL_age_66 : decode cL_age 66 = .ok (.iload 8, 2) := by decide +kernel
theorem dL_age_68 : decode cL_age 68 = .ok (.aload 4, 2) := by decide +kernel
theorem dL_age_70 : decode cL_age 70 = .ok (.iconst 0, 1) := by decide +kernel
theorem dL_age_71 : decode cL_age 71 = .ok (.iaload, 1) := by decide +kernel
theorem dL_age_72 : decode cL_age 72 = .ok (.if_icmp .gt 49, 3) := by decide +kernel
theorem dL_age_75 : decode cL_age 75 = .ok (.iload 7, 2) := by decide +kernel
theorem dL_age_77 : decode cL_age 77 = .ok (.aload_n 2, 1) := by decide +kernel
theorem dL_age_78 : decode cL_age 78 = .ok (.iload 8, 2) := by decide +kernel
theorem dL_age_80 : decode cL_age 80 = .ok (.iaload, 1) := by decide +kernel
theorem dL_age_81 : decode cL_age 81 = .ok (.bipush 7, 2) := by decide +kernel
theorem dL_age_83 : decode cL_age 83 = .ok (.iand, 1) := by decide +kernel
theorem dL_age_84 : decode cL_age 84 = .ok (.aload_n 0, 1) := by decide +kernel
theorem dL_age_85 : decode cL_age 85 = .ok (.bipush 8, 2) := by decide +kernel
theorem dL_age_87 : decode cL_age 87 = .ok (.iload 6, 2) := by decide +kernel
theorem dL_age_89 : decode cL_age 89 = .ok (.imul, 1) := by decide +kernel
theorem dL_age_90 : decode cL_age 90 = .ok (.iaload, 1) := by decide +kernel
theorem dL_age_91 : decode cL_age 91 = .ok (.if_icmp .ne 20, 3) := by decide +kernel
theorem dL_age_94 : decode cL_age 94 = .ok (.aload_n 2, 1) := by decide +kernel
theorem dL_age_95 : decode cL_age 95 = .ok (.iload 8, 2) := by decide +kernel
theorem dL_age_97 : decode cL_age 97 = .ok (.iaload, 1) := by decide +kernel
theorem dL_age_98 : decode cL_age 98 = .ok (.iconst 3, 1) := by decide +kernel
theorem dL_age_99 : decode cL_age 99 = .ok (.ishr, 1) := by decide +kernel
theorem dL_age_100 : decode cL_age 100 = .ok (.aload 4, 2) := by decide +kernel
theorem dL_age_102 : decode cL_age 102 = .ok (.iconst 1, 1) := by decide +kernel
theorem dL_age_103 : decode cL_age 103 = .ok (.iaload, 1) := by decide +kernel
theorem dL_age_104 : decode cL_age 104 = .ok (.if_icmp .gt 7, 3) := by decide +kernel
theorem dL_age_107 : decode cL_age 107 = .ok (.iconst 1, 1) := by decide +kernel
theorem dL_age_108 : decode cL_age 108 = .ok (.goto 4, 3) := by decide +kernel
theorem dL_age_111 : decode cL_age 111 = .ok (.iconst 0, 1) := by decide +kernel
theorem dL_age_112 : decode cL_age 112 = .ok (.ior, 1) := by decide +kernel
theorem dL_age_113 : decode cL_age 113 = .ok (.istore 7, 2) := by decide +kernel
theorem dL_age_115 : decode cL_age 115 = .ok (.iinc 8 1, 3) := by decide +kernel
theorem dL_age_118 : decode cL_age 118 = .ok (.goto (-52), 3) := by decide +kernel
theorem dL_age_121 : decode cL_age 121 = .ok (.iload 7, 2) := by decide +kernel
theorem dL_age_123 : decode cL_age 123 = .ok (.ifCond .eq 6, 3) := by decide +kernel
theorem dL_age_126 : decode cL_age 126 = .ok (.goto 78, 3) := by decide +kernel
theorem dL_age_129 : decode cL_age 129 = .ok (.iconst 0, 1) := by decide +kernel
theorem dL_age_130 : decode cL_age 130 = .ok (.istore 8, 2) := by decide +kernel
theorem dL_age_132 : decode cL_age 132 = .ok (.iload 8, 2) := by decide +kernel
theorem dL_age_134 : decode cL_age 134 = .ok (.bipush 8, 2) := by decide +kernel
theorem dL_age_136 : decode cL_age 136 = .ok (.if_icmp .ge 29, 3) := by decide +kernel
theorem dL_age_139 : decode cL_age 139 = .ok (.aload_n 0, 1) := by decide +kernel
theorem dL_age_140 : decode cL_age 140 = .ok (.bipush 8, 2) := by decide +kernel
theorem dL_age_142 : decode cL_age 142 = .ok (.iload 5, 2) := by decide +kernel
theorem dL_age_144 : decode cL_age 144 = .ok (.imul, 1) := by decide +kernel
theorem dL_age_145 : decode cL_age 145 = .ok (.iload 8, 2) := by decide +kernel
theorem dL_age_147 : decode cL_age 147 = .ok (.iadd, 1) := by decide +kernel
theorem dL_age_148 : decode cL_age 148 = .ok (.aload_n 0, 1) := by decide +kernel
theorem dL_age_149 : decode cL_age 149 = .ok (.bipush 8, 2) := by decide +kernel
theorem dL_age_151 : decode cL_age 151 = .ok (.iload 6, 2) := by decide +kernel
theorem dL_age_153 : decode cL_age 153 = .ok (.imul, 1) := by decide +kernel
theorem dL_age_154 : decode cL_age 154 = .ok (.iload 8, 2) := by decide +kernel
theorem dL_age_156 : decode cL_age 156 = .ok (.iadd, 1) := by decide +kernel
theorem dL_age_157 : decode cL_age 157 = .ok (.iaload, 1) := by decide +kernel
theorem dL_age_158 : decode cL_age 158 = .ok (.iastore, 1) := by decide +kernel
theorem dL_age_159 : decode cL_age 159 = .ok (.iinc 8 1, 3) := by decide +kernel
theorem dL_age_162 : decode cL_age 162 = .ok (.goto (-30), 3) := by decide +kernel
theorem dL_age_165 : decode cL_age 165 = .ok (.iconst 0, 1) := by decide +kernel
theorem dL_age_166 : decode cL_age 166 = .ok (.istore 8, 2) := by decide +kernel
theorem dL_age_168 : decode cL_age 168 = .ok (.iload 8, 2) := by decide +kernel
theorem dL_age_170 : decode cL_age 170 = .ok (.bipush 10, 2) := by decide +kernel
theorem dL_age_172 : decode cL_age 172 = .ok (.if_icmp .ge 29, 3) := by decide +kernel
theorem dL_age_175 : decode cL_age 175 = .ok (.aload_n 1, 1) := by decide +kernel
theorem dL_age_176 : decode cL_age 176 = .ok (.bipush 10, 2) := by decide +kernel
theorem dL_age_178 : decode cL_age 178 = .ok (.iload 5, 2) := by decide +kernel
theorem dL_age_180 : decode cL_age 180 = .ok (.imul, 1) := by decide +kernel
theorem dL_age_181 : decode cL_age 181 = .ok (.iload 8, 2) := by decide +kernel
theorem dL_age_183 : decode cL_age 183 = .ok (.iadd, 1) := by decide +kernel
theorem dL_age_184 : decode cL_age 184 = .ok (.aload_n 1, 1) := by decide +kernel
theorem dL_age_185 : decode cL_age 185 = .ok (.bipush 10, 2) := by decide +kernel
theorem dL_age_187 : decode cL_age 187 = .ok (.iload 6, 2) := by decide +kernel
theorem dL_age_189 : decode cL_age 189 = .ok (.imul, 1) := by decide +kernel
theorem dL_age_190 : decode cL_age 190 = .ok (.iload 8, 2) := by decide +kernel
theorem dL_age_192 : decode cL_age 192 = .ok (.iadd, 1) := by decide +kernel
theorem dL_age_193 : decode cL_age 193 = .ok (.laload, 1) := by decide +kernel
theorem dL_age_194 : decode cL_age 194 = .ok (.lastore, 1) := by decide +kernel
theorem dL_age_195 : decode cL_age 195 = .ok (.iinc 8 1, 3) := by decide +kernel
theorem dL_age_198 : decode cL_age 198 = .ok (.goto (-30), 3) := by decide +kernel
theorem dL_age_201 : decode cL_age 201 = .ok (.iinc 5 1, 3) := by decide +kernel
theorem dL_age_204 : decode cL_age 204 = .ok (.iinc 6 1, 3) := by decide +kernel
theorem dL_age_207 : decode cL_age 207 = .ok (.goto (-201), 3) := by decide +kernel
theorem dL_age_210 : decode cL_age 210 = .ok (.aload 4, 2) := by decide +kernel
theorem dL_age_212 : decode cL_age 212 = .ok (.iconst 3, 1) := by decide +kernel
theorem dL_age_213 : decode cL_age 213 = .ok (.iload 5, 2) := by decide +kernel
theorem dL_age_215 : decode cL_age 215 = .ok (.iastore, 1) := by decide +kernel
theorem dL_age_216 : decode cL_age 216 = .ok (.return_, 1) := by decide +kernel
theorem dL_written_0 : decode cL_written 0 = .ok (.aload 4, 2) := by decide +kernel
theorem dL_written_2 : decode cL_written 2 = .ok (.iconst 0, 1) := by decide +kernel
theorem dL_written_3 : decode cL_written 3 = .ok (.dup2, 1) := by decide +kernel
theorem dL_written_4 : decode cL_written 4 = .ok (.iaload, 1) := by decide +kernel
theorem dL_written_5 : decode cL_written 5 = .ok (.iconst 1, 1) := by decide +kernel
theorem dL_written_6 : decode cL_written 6 = .ok (.iadd, 1) := by decide +kernel
theorem dL_written_7 : decode cL_written 7 = .ok (.iastore, 1) := by decide +kernel
theorem dL_written_8 : decode cL_written 8 = .ok (.aload_n 2, 1) := by decide +kernel
theorem dL_written_9 : decode cL_written 9 = .ok (.aload 4, 2) := by decide +kernel
theorem dL_written_11 : decode cL_written 11 = .ok (.iconst 0, 1) := by decide +kernel
theorem dL_written_12 : decode cL_written 12 = .ok (.iaload, 1) := by decide +kernel
theorem dL_written_13 : decode cL_written 13 = .ok (.iload 5, 2) := by decide +kernel
theorem dL_written_15 : decode cL_written 15 = .ok (.aload 4, 2) := by decide +kernel
theorem dL_written_17 : decode cL_written 17 = .ok (.iconst 1, 1) := by decide +kernel
theorem dL_written_18 : decode cL_written 18 = .ok (.iaload, 1) := by decide +kernel
theorem dL_written_19 : decode cL_written 19 = .ok (.aload_n 3, 1) := by decide +kernel
theorem dL_written_20 : decode cL_written 20 = .ok (.iconst 3, 1) := by decide +kernel
theorem dL_written_21 : decode cL_written 21 = .ok (.iload 5, 2) := by decide +kernel
theorem dL_written_23 : decode cL_written 23 = .ok (.iconst 2, 1) := by decide +kernel
theorem dL_written_24 : decode cL_written 24 = .ok (.idiv, 1) := by decide +kernel
theorem dL_written_25 : decode cL_written 25 = .ok (.iadd, 1) := by decide +kernel
theorem dL_written_26 : decode cL_written 26 = .ok (.iaload, 1) := by decide +kernel
theorem dL_written_27 : decode cL_written 27 = .ok (.iadd, 1) := by decide +kernel
theorem dL_written_28 : decode cL_written 28 = .ok (.iconst 3, 1) := by decide +kernel
theorem dL_written_29 : decode cL_written 29 = .ok (.ishl, 1) := by decide +kernel
theorem dL_written_30 : decode cL_written 30 = .ok (.iadd, 1) := by decide +kernel
theorem dL_written_31 : decode cL_written 31 = .ok (.iastore, 1) := by decide +kernel
theorem dL_written_32 : decode cL_written 32 = .ok (.aload_n 0, 1) := by decide +kernel
theorem dL_written_33 : decode cL_written 33 = .ok (.aload_n 1, 1) := by decide +kernel
theorem dL_written_34 : decode cL_written 34 = .ok (.aload_n 2, 1) := by decide +kernel
theorem dL_written_35 : decode cL_written 35 = .ok (.aload_n 3, 1) := by decide +kernel
theorem dL_written_36 : decode cL_written 36 = .ok (.aload 4, 2) := by decide +kernel
theorem dL_written_38 : decode cL_written 38 = .ok (.invokestatic 113, 3) := by decide +kernel
theorem dL_written_41 : decode cL_written 41 = .ok (.return_, 1) := by decide +kernel
theorem dL_lay_0 : decode cL_lay 0 = .ok (.aload_n 1, 1) := by decide +kernel
theorem dL_lay_1 : decode cL_lay 1 = .ok (.iload_n 2, 1) := by decide +kernel
theorem dL_lay_2 : decode cL_lay 2 = .ok (.iaload, 1) := by decide +kernel
theorem dL_lay_3 : decode cL_lay 3 = .ok (.istore 5, 2) := by decide +kernel
theorem dL_lay_5 : decode cL_lay 5 = .ok (.iload 5, 2) := by decide +kernel
theorem dL_lay_7 : decode cL_lay 7 = .ok (.ifCond .le 50, 3) := by decide +kernel
theorem dL_lay_10 : decode cL_lay 10 = .ok (.aload_n 0, 1) := by decide +kernel
theorem dL_lay_11 : decode cL_lay 11 = .ok (.bipush 10, 2) := by decide +kernel
theorem dL_lay_13 : decode cL_lay 13 = .ok (.iload_n 2, 1) := by decide +kernel
theorem dL_lay_14 : decode cL_lay 14 = .ok (.imul, 1) := by decide +kernel
theorem dL_lay_15 : decode cL_lay 15 = .ok (.iload 5, 2) := by decide +kernel
theorem dL_lay_17 : decode cL_lay 17 = .ok (.iadd, 1) := by decide +kernel
theorem dL_lay_18 : decode cL_lay 18 = .ok (.iconst 1, 1) := by decide +kernel
theorem dL_lay_19 : decode cL_lay 19 = .ok (.isub, 1) := by decide +kernel
theorem dL_lay_20 : decode cL_lay 20 = .ok (.laload, 1) := by decide +kernel
theorem dL_lay_21 : decode cL_lay 21 = .ok (.invokestatic 105, 3) := by decide +kernel
theorem dL_lay_24 : decode cL_lay 24 = .ok (.lload_n 3, 1) := by decide +kernel
theorem dL_lay_25 : decode cL_lay 25 = .ok (.invokestatic 105, 3) := by decide +kernel
theorem dL_lay_28 : decode cL_lay 28 = .ok (.if_icmp .le 29, 3) := by decide +kernel
theorem dL_lay_31 : decode cL_lay 31 = .ok (.aload_n 0, 1) := by decide +kernel
theorem dL_lay_32 : decode cL_lay 32 = .ok (.bipush 10, 2) := by decide +kernel
theorem dL_lay_34 : decode cL_lay 34 = .ok (.iload_n 2, 1) := by decide +kernel
theorem dL_lay_35 : decode cL_lay 35 = .ok (.imul, 1) := by decide +kernel
theorem dL_lay_36 : decode cL_lay 36 = .ok (.iload 5, 2) := by decide +kernel
theorem dL_lay_38 : decode cL_lay 38 = .ok (.iadd, 1) := by decide +kernel
theorem dL_lay_39 : decode cL_lay 39 = .ok (.aload_n 0, 1) := by decide +kernel
theorem dL_lay_40 : decode cL_lay 40 = .ok (.bipush 10, 2) := by decide +kernel
theorem dL_lay_42 : decode cL_lay 42 = .ok (.iload_n 2, 1) := by decide +kernel
theorem dL_lay_43 : decode cL_lay 43 = .ok (.imul, 1) := by decide +kernel
theorem dL_lay_44 : decode cL_lay 44 = .ok (.iload 5, 2) := by decide +kernel
theorem dL_lay_46 : decode cL_lay 46 = .ok (.iadd, 1) := by decide +kernel
theorem dL_lay_47 : decode cL_lay 47 = .ok (.iconst 1, 1) := by decide +kernel
theorem dL_lay_48 : decode cL_lay 48 = .ok (.isub, 1) := by decide +kernel
theorem dL_lay_49 : decode cL_lay 49 = .ok (.laload, 1) := by decide +kernel
theorem dL_lay_50 : decode cL_lay 50 = .ok (.lastore, 1) := by decide +kernel
theorem dL_lay_51 : decode cL_lay 51 = .ok (.iinc 5 (-1), 3) := by decide +kernel
theorem dL_lay_54 : decode cL_lay 54 = .ok (.goto (-49), 3) := by decide +kernel
theorem dL_lay_57 : decode cL_lay 57 = .ok (.aload_n 0, 1) := by decide +kernel
theorem dL_lay_58 : decode cL_lay 58 = .ok (.bipush 10, 2) := by decide +kernel
theorem dL_lay_60 : decode cL_lay 60 = .ok (.iload_n 2, 1) := by decide +kernel
theorem dL_lay_61 : decode cL_lay 61 = .ok (.imul, 1) := by decide +kernel
theorem dL_lay_62 : decode cL_lay 62 = .ok (.iload 5, 2) := by decide +kernel
theorem dL_lay_64 : decode cL_lay 64 = .ok (.iadd, 1) := by decide +kernel
theorem dL_lay_65 : decode cL_lay 65 = .ok (.lload_n 3, 1) := by decide +kernel
theorem dL_lay_66 : decode cL_lay 66 = .ok (.lastore, 1) := by decide +kernel
theorem dL_lay_67 : decode cL_lay 67 = .ok (.aload_n 1, 1) := by decide +kernel
theorem dL_lay_68 : decode cL_lay 68 = .ok (.iload_n 2, 1) := by decide +kernel
theorem dL_lay_69 : decode cL_lay 69 = .ok (.dup2, 1) := by decide +kernel
theorem dL_lay_70 : decode cL_lay 70 = .ok (.iaload, 1) := by decide +kernel
theorem dL_lay_71 : decode cL_lay 71 = .ok (.iconst 1, 1) := by decide +kernel
theorem dL_lay_72 : decode cL_lay 72 = .ok (.iadd, 1) := by decide +kernel
theorem dL_lay_73 : decode cL_lay 73 = .ok (.iastore, 1) := by decide +kernel
theorem dL_lay_74 : decode cL_lay 74 = .ok (.return_, 1) := by decide +kernel
theorem dL_lift_0 : decode cL_lift 0 = .ok (.aload_n 1, 1) := by decide +kernel
theorem dL_lift_1 : decode cL_lift 1 = .ok (.iload_n 2, 1) := by decide +kernel
theorem dL_lift_2 : decode cL_lift 2 = .ok (.dup2, 1) := by decide +kernel
theorem dL_lift_3 : decode cL_lift 3 = .ok (.iaload, 1) := by decide +kernel
theorem dL_lift_4 : decode cL_lift 4 = .ok (.iconst 1, 1) := by decide +kernel
theorem dL_lift_5 : decode cL_lift 5 = .ok (.isub, 1) := by decide +kernel
theorem dL_lift_6 : decode cL_lift 6 = .ok (.iastore, 1) := by decide +kernel
theorem dL_lift_7 : decode cL_lift 7 = .ok (.iload_n 3, 1) := by decide +kernel
theorem dL_lift_8 : decode cL_lift 8 = .ok (.istore 4, 2) := by decide +kernel
theorem dL_lift_10 : decode cL_lift 10 = .ok (.iload 4, 2) := by decide +kernel
theorem dL_lift_12 : decode cL_lift 12 = .ok (.aload_n 1, 1) := by decide +kernel
theorem dL_lift_13 : decode cL_lift 13 = .ok (.iload_n 2, 1) := by decide +kernel
theorem dL_lift_14 : decode cL_lift 14 = .ok (.iaload, 1) := by decide +kernel
theorem dL_lift_15 : decode cL_lift 15 = .ok (.if_icmp .ge 29, 3) := by decide +kernel
theorem dL_lift_18 : decode cL_lift 18 = .ok (.aload_n 0, 1) := by decide +kernel
theorem dL_lift_19 : decode cL_lift 19 = .ok (.bipush 10, 2) := by decide +kernel
theorem dL_lift_21 : decode cL_lift 21 = .ok (.iload_n 2, 1) := by decide +kernel
theorem dL_lift_22 : decode cL_lift 22 = .ok (.imul, 1) := by decide +kernel
theorem dL_lift_23 : decode cL_lift 23 = .ok (.iload 4, 2) := by decide +kernel
theorem dL_lift_25 : decode cL_lift 25 = .ok (.iadd, 1) := by decide +kernel
theorem dL_lift_26 : decode cL_lift 26 = .ok (.aload_n 0, 1) := by decide +kernel
theorem dL_lift_27 : decode cL_lift 27 = .ok (.bipush 10, 2) := by decide +kernel
theorem dL_lift_29 : decode cL_lift 29 = .ok (.iload_n 2, 1) := by decide +kernel
theorem dL_lift_30 : decode cL_lift 30 = .ok (.imul, 1) := by decide +kernel
theorem dL_lift_31 : decode cL_lift 31 = .ok (.iload 4, 2) := by decide +kernel
theorem dL_lift_33 : decode cL_lift 33 = .ok (.iadd, 1) := by decide +kernel
theorem dL_lift_34 : decode cL_lift 34 = .ok (.iconst 1, 1) := by decide +kernel
theorem dL_lift_35 : decode cL_lift 35 = .ok (.iadd, 1) := by decide +kernel
theorem dL_lift_36 : decode cL_lift 36 = .ok (.laload, 1) := by decide +kernel
theorem dL_lift_37 : decode cL_lift 37 = .ok (.lastore, 1) := by decide +kernel
theorem dL_lift_38 : decode cL_lift 38 = .ok (.iinc 4 1, 3) := by decide +kernel
theorem dL_lift_41 : decode cL_lift 41 = .ok (.goto (-31), 3) := by decide +kernel
theorem dL_lift_44 : decode cL_lift 44 = .ok (.return_, 1) := by decide +kernel
theorem dL_kept_0 : decode cL_kept 0 = .ok (.iload_n 1, 1) := by decide +kernel
theorem dL_kept_1 : decode cL_kept 1 = .ok (.iconst 2, 1) := by decide +kernel
theorem dL_kept_2 : decode cL_kept 2 = .ok (.idiv, 1) := by decide +kernel
theorem dL_kept_3 : decode cL_kept 3 = .ok (.iconst 1, 1) := by decide +kernel
theorem dL_kept_4 : decode cL_kept 4 = .ok (.if_icmp .ne 15, 3) := by decide +kernel
theorem dL_kept_7 : decode cL_kept 7 = .ok (.iload_n 2, 1) := by decide +kernel
theorem dL_kept_8 : decode cL_kept 8 = .ok (.iconst 1, 1) := by decide +kernel
theorem dL_kept_9 : decode cL_kept 9 = .ok (.if_icmp .ne 10, 3) := by decide +kernel
theorem dL_kept_12 : decode cL_kept 12 = .ok (.iload_n 3, 1) := by decide +kernel
theorem dL_kept_13 : decode cL_kept 13 = .ok (.invokestatic 109, 3) := by decide +kernel
theorem dL_kept_16 : decode cL_kept 16 = .ok (.ifCond .ne 5, 3) := by decide +kernel
theorem dL_kept_19 : decode cL_kept 19 = .ok (.iload_n 3, 1) := by decide +kernel
theorem dL_kept_20 : decode cL_kept 20 = .ok (.ireturn, 1) := by decide +kernel
theorem dL_kept_21 : decode cL_kept 21 = .ok (.iload_n 3, 1) := by decide +kernel
theorem dL_kept_22 : decode cL_kept 22 = .ok (.ifCond .lt 9, 3) := by decide +kernel
theorem dL_kept_25 : decode cL_kept 25 = .ok (.iload_n 3, 1) := by decide +kernel
theorem dL_kept_26 : decode cL_kept 26 = .ok (.bipush 99, 2) := by decide +kernel
theorem dL_kept_28 : decode cL_kept 28 = .ok (.if_icmp .le 10, 3) := by decide +kernel
theorem dL_kept_31 : decode cL_kept 31 = .ok (.aload_n 0, 1) := by decide +kernel
theorem dL_kept_32 : decode cL_kept 32 = .ok (.iconst 2, 1) := by decide +kernel
theorem dL_kept_33 : decode cL_kept 33 = .ok (.dup2, 1) := by decide +kernel
theorem dL_kept_34 : decode cL_kept 34 = .ok (.iaload, 1) := by decide +kernel
theorem dL_kept_35 : decode cL_kept 35 = .ok (.iconst 1, 1) := by decide +kernel
theorem dL_kept_36 : decode cL_kept 36 = .ok (.iadd, 1) := by decide +kernel
theorem dL_kept_37 : decode cL_kept 37 = .ok (.iastore, 1) := by decide +kernel
theorem dL_kept_38 : decode cL_kept 38 = .ok (.iload_n 3, 1) := by decide +kernel
theorem dL_kept_39 : decode cL_kept 39 = .ok (.ifCond .ge 7, 3) := by decide +kernel
theorem dL_kept_42 : decode cL_kept 42 = .ok (.iconst 0, 1) := by decide +kernel
theorem dL_kept_43 : decode cL_kept 43 = .ok (.goto 15, 3) := by decide +kernel
theorem dL_kept_46 : decode cL_kept 46 = .ok (.iload_n 3, 1) := by decide +kernel
theorem dL_kept_47 : decode cL_kept 47 = .ok (.bipush 99, 2) := by decide +kernel
theorem dL_kept_49 : decode cL_kept 49 = .ok (.if_icmp .le 8, 3) := by decide +kernel
theorem dL_kept_52 : decode cL_kept 52 = .ok (.bipush 99, 2) := by decide +kernel
theorem dL_kept_54 : decode cL_kept 54 = .ok (.goto 4, 3) := by decide +kernel
theorem dL_kept_57 : decode cL_kept 57 = .ok (.iload_n 3, 1) := by decide +kernel
theorem dL_kept_58 : decode cL_kept 58 = .ok (.ireturn, 1) := by decide +kernel
theorem dL_addable_0 : decode cL_addable 0 = .ok (.iload_n 3, 1) := by decide +kernel
theorem dL_addable_1 : decode cL_addable 1 = .ok (.iconst 0, 1) := by decide +kernel
theorem dL_addable_2 : decode cL_addable 2 = .ok (.iload 4, 2) := by decide +kernel
theorem dL_addable_4 : decode cL_addable 4 = .ok (.invokestatic 117, 3) := by decide +kernel
theorem dL_addable_7 : decode cL_addable 7 = .ok (.ifCond .eq 33, 3) := by decide +kernel
theorem dL_addable_10 : decode cL_addable 10 = .ok (.iload_n 3, 1) := by decide +kernel
theorem dL_addable_11 : decode cL_addable 11 = .ok (.iconst 1, 1) := by decide +kernel
theorem dL_addable_12 : decode cL_addable 12 = .ok (.iload 5, 2) := by decide +kernel
theorem dL_addable_14 : decode cL_addable 14 = .ok (.invokestatic 117, 3) := by decide +kernel
theorem dL_addable_17 : decode cL_addable 17 = .ok (.ifCond .eq 23, 3) := by decide +kernel
theorem dL_addable_20 : decode cL_addable 20 = .ok (.iload_n 3, 1) := by decide +kernel
theorem dL_addable_21 : decode cL_addable 21 = .ok (.iconst 2, 1) := by decide +kernel
theorem dL_addable_22 : decode cL_addable 22 = .ok (.iload 6, 2) := by decide +kernel
theorem dL_addable_24 : decode cL_addable 24 = .ok (.invokestatic 117, 3) := by decide +kernel
theorem dL_addable_27 : decode cL_addable 27 = .ok (.ifCond .eq 13, 3) := by decide +kernel
theorem dL_addable_30 : decode cL_addable 30 = .ok (.iload_n 3, 1) := by decide +kernel
theorem dL_addable_31 : decode cL_addable 31 = .ok (.iconst 3, 1) := by decide +kernel
theorem dL_addable_32 : decode cL_addable 32 = .ok (.iload 7, 2) := by decide +kernel
theorem dL_addable_34 : decode cL_addable 34 = .ok (.invokestatic 117, 3) := by decide +kernel
theorem dL_addable_37 : decode cL_addable 37 = .ok (.ifCond .ne 7, 3) := by decide +kernel
theorem dL_addable_40 : decode cL_addable 40 = .ok (.sipush (-7200), 3) := by decide +kernel
theorem dL_addable_43 : decode cL_addable 43 = .ok (.ireturn, 1) := by decide +kernel
theorem dL_addable_44 : decode cL_addable 44 = .ok (.aload_n 1, 1) := by decide +kernel
theorem dL_addable_45 : decode cL_addable 45 = .ok (.iload_n 3, 1) := by decide +kernel
theorem dL_addable_46 : decode cL_addable 46 = .ok (.iaload, 1) := by decide +kernel
theorem dL_addable_47 : decode cL_addable 47 = .ok (.bipush 12, 2) := by decide +kernel
theorem dL_addable_49 : decode cL_addable 49 = .ok (.if_icmp .eq 35, 3) := by decide +kernel
theorem dL_addable_52 : decode cL_addable 52 = .ok (.iload_n 3, 1) := by decide +kernel
theorem dL_addable_53 : decode cL_addable 53 = .ok (.iconst 1, 1) := by decide +kernel
theorem dL_addable_54 : decode cL_addable 54 = .ok (.if_icmp .le 14, 3) := by decide +kernel
theorem dL_addable_57 : decode cL_addable 57 = .ok (.aload_n 0, 1) := by decide +kernel
theorem dL_addable_58 : decode cL_addable 58 = .ok (.aload_n 1, 1) := by decide +kernel
theorem dL_addable_59 : decode cL_addable 59 = .ok (.iload_n 3, 1) := by decide +kernel
theorem dL_addable_60 : decode cL_addable 60 = .ok (.iload 4, 2) := by decide +kernel
theorem dL_addable_62 : decode cL_addable 62 = .ok (.invokestatic 121, 3) := by decide +kernel
theorem dL_addable_65 : decode cL_addable 65 = .ok (.ifCond .ge 19, 3) := by decide +kernel
theorem dL_addable_68 : decode cL_addable 68 = .ok (.iload_n 3, 1) := by decide +kernel
theorem dL_addable_69 : decode cL_addable 69 = .ok (.iconst 2, 1) := by decide +kernel
theorem dL_addable_70 : decode cL_addable 70 = .ok (.if_icmp .ge 20, 3) := by decide +kernel
theorem dL_addable_73 : decode cL_addable 73 = .ok (.aload_n 2, 1) := by decide +kernel
theorem dL_addable_74 : decode cL_addable 74 = .ok (.bipush 6, 2) := by decide +kernel
theorem dL_addable_76 : decode cL_addable 76 = .ok (.iload_n 3, 1) := by decide +kernel
theorem dL_addable_77 : decode cL_addable 77 = .ok (.iadd, 1) := by decide +kernel
theorem dL_addable_78 : decode cL_addable 78 = .ok (.iaload, 1) := by decide +kernel
theorem dL_addable_79 : decode cL_addable 79 = .ok (.bipush 60, 2) := by decide +kernel
theorem dL_addable_81 : decode cL_addable 81 = .ok (.if_icmp .ne 9, 3) := by decide +kernel
theorem dL_addable_84 : decode cL_addable 84 = .ok (.sipush (-7300), 3) := by decide +kernel
theorem dL_addable_87 : decode cL_addable 87 = .ok (.goto 4, 3) := by decide +kernel
theorem dL_addable_90 : decode cL_addable 90 = .ok (.iconst 0, 1) := by decide +kernel
theorem dL_addable_91 : decode cL_addable 91 = .ok (.ireturn, 1) := by decide +kernel
theorem dL_changeable_0 : decode cL_changeable 0 = .ok (.aload_n 0, 1) := by decide +kernel
theorem dL_changeable_1 : decode cL_changeable 1 = .ok (.aload_n 1, 1) := by decide +kernel
theorem dL_changeable_2 : decode cL_changeable 2 = .ok (.iload_n 2, 1) := by decide +kernel
theorem dL_changeable_3 : decode cL_changeable 3 = .ok (.iload_n 3, 1) := by decide +kernel
theorem dL_changeable_4 : decode cL_changeable 4 = .ok (.invokestatic 121, 3) := by decide +kernel
theorem dL_changeable_7 : decode cL_changeable 7 = .ok (.ifCond .lt 17, 3) := by decide +kernel
theorem dL_changeable_10 : decode cL_changeable 10 = .ok (.iload 4, 2) := by decide +kernel
theorem dL_changeable_12 : decode cL_changeable 12 = .ok (.ifCond .lt 12, 3) := by decide +kernel
theorem dL_changeable_15 : decode cL_changeable 15 = .ok (.iload 4, 2) := by decide +kernel
theorem dL_changeable_17 : decode cL_changeable 17 = .ok (.iload_n 2, 1) := by decide +kernel
theorem dL_changeable_18 : decode cL_changeable 18 = .ok (.invokestatic 125, 3) := by decide +kernel
theorem dL_changeable_21 : decode cL_changeable 21 = .ok (.if_icmp .lt 7, 3) := by decide +kernel
theorem dL_changeable_24 : decode cL_changeable 24 = .ok (.sipush (-7100), 3) := by decide +kernel
theorem dL_changeable_27 : decode cL_changeable 27 = .ok (.ireturn, 1) := by decide +kernel
theorem dL_changeable_28 : decode cL_changeable 28 = .ok (.iload_n 2, 1) := by decide +kernel
theorem dL_changeable_29 : decode cL_changeable 29 = .ok (.iconst 1, 1) := by decide +kernel
theorem dL_changeable_30 : decode cL_changeable 30 = .ok (.if_icmp .le 8, 3) := by decide +kernel
theorem dL_changeable_33 : decode cL_changeable 33 = .ok (.iload 4, 2) := by decide +kernel
theorem dL_changeable_35 : decode cL_changeable 35 = .ok (.ifCond .eq 14, 3) := by decide +kernel
theorem dL_changeable_38 : decode cL_changeable 38 = .ok (.iload_n 2, 1) := by decide +kernel
theorem dL_changeable_39 : decode cL_changeable 39 = .ok (.iload 4, 2) := by decide +kernel
theorem dL_changeable_41 : decode cL_changeable 41 = .ok (.iload 5, 2) := by decide +kernel
theorem dL_changeable_43 : decode cL_changeable 43 = .ok (.invokestatic 117, 3) := by decide +kernel
theorem dL_changeable_46 : decode cL_changeable 46 = .ok (.ifCond .ne 9, 3) := by decide +kernel
theorem dL_changeable_49 : decode cL_changeable 49 = .ok (.sipush (-7200), 3) := by decide +kernel
theorem dL_changeable_52 : decode cL_changeable 52 = .ok (.goto 4, 3) := by decide +kernel
theorem dL_changeable_55 : decode cL_changeable 55 = .ok (.iconst 0, 1) := by decide +kernel
theorem dL_changeable_56 : decode cL_changeable 56 = .ok (.ireturn, 1) := by decide +kernel
theorem dL_with_0 : decode cL_with 0 = .ok (.bipush 36, 2) := by decide +kernel
theorem dL_with_2 : decode cL_with 2 = .ok (.bipush 12, 2) := by decide +kernel
theorem dL_with_4 : decode cL_with 4 = .ok (.iload_n 2, 1) := by decide +kernel
theorem dL_with_5 : decode cL_with 5 = .ok (.imul, 1) := by decide +kernel
theorem dL_with_6 : decode cL_with 6 = .ok (.isub, 1) := by decide +kernel
theorem dL_with_7 : decode cL_with 7 = .ok (.istore 4, 2) := by decide +kernel
theorem dL_with_9 : decode cL_with 9 = .ok (.lload_n 0, 1) := by decide +kernel
theorem dL_with_10 : decode cL_with 10 = .ok (.ldc2_w 103, 3) := by decide +kernel
theorem dL_with_13 : decode cL_with 13 = .ok (.iload 4, 2) := by decide +kernel
theorem dL_with_15 : decode cL_with 15 = .ok (.lshl, 1) := by decide +kernel
theorem dL_with_16 : decode cL_with 16 = .ok (.ldc2_w 128, 3) := by decide +kernel
theorem dL_with_19 : decode cL_with 19 = .ok (.lxor, 1) := by decide +kernel
theorem dL_with_20 : decode cL_with 20 = .ok (.land, 1) := by decide +kernel
theorem dL_with_21 : decode cL_with 21 = .ok (.iload_n 3, 1) := by decide +kernel
theorem dL_with_22 : decode cL_with 22 = .ok (.invokestatic 98, 3) := by decide +kernel
theorem dL_with_25 : decode cL_with 25 = .ok (.i2l, 1) := by decide +kernel
theorem dL_with_26 : decode cL_with 26 = .ok (.iload 4, 2) := by decide +kernel
theorem dL_with_28 : decode cL_with 28 = .ok (.lshl, 1) := by decide +kernel
theorem dL_with_29 : decode cL_with 29 = .ok (.lor, 1) := by decide +kernel
theorem dL_with_30 : decode cL_with 30 = .ok (.lreturn, 1) := by decide +kernel
theorem dL_writes_0 : decode cL_writes 0 = .ok (.iload_n 2, 1) := by decide +kernel
theorem dL_writes_1 : decode cL_writes 1 = .ok (.bipush 6, 2) := by decide +kernel
theorem dL_writes_3 : decode cL_writes 3 = .ok (.invokestatic 130, 3) := by decide +kernel
theorem dL_writes_6 : decode cL_writes 6 = .ok (.istore 12, 2) := by decide +kernel
theorem dL_writes_8 : decode cL_writes 8 = .ok (.iload_n 3, 1) := by decide +kernel
theorem dL_writes_9 : decode cL_writes 9 = .ok (.bipush 12, 2) := by decide +kernel
theorem dL_writes_11 : decode cL_writes 11 = .ok (.invokestatic 130, 3) := by decide +kernel
theorem dL_writes_14 : decode cL_writes 14 = .ok (.istore 13, 2) := by decide +kernel
theorem dL_writes_16 : decode cL_writes 16 = .ok (.iload_n 1, 1) := by decide +kernel
theorem dL_writes_17 : decode cL_writes 17 = .ok (.iconst 5, 1) := by decide +kernel
theorem dL_writes_18 : decode cL_writes 18 = .ok (.if_icmp .ge 391, 3) := by decide +kernel
theorem dL_writes_21 : decode cL_writes 21 = .ok (.iload 12, 2) := by decide +kernel
theorem dL_writes_23 : decode cL_writes 23 = .ok (.iconst 1, 1) := by decide +kernel
theorem dL_writes_24 : decode cL_writes 24 = .ok (.if_icmp .le 39, 3) := by decide +kernel
theorem dL_writes_27 : decode cL_writes 27 = .ok (.iload_n 3, 1) := by decide +kernel
theorem dL_writes_28 : decode cL_writes 28 = .ok (.iload_n 2, 1) := by decide +kernel
theorem dL_writes_29 : decode cL_writes 29 = .ok (.sipush 768, 3) := by decide +kernel
theorem dL_writes_32 : decode cL_writes 32 = .ok (.iand, 1) := by decide +kernel
theorem dL_writes_33 : decode cL_writes 33 = .ok (.ifCond .ne 8, 3) := by decide +kernel
theorem dL_writes_36 : decode cL_writes 36 = .ok (.bipush 102, 2) := by decide +kernel
theorem dL_writes_38 : decode cL_writes 38 = .ok (.goto 5, 3) := by decide +kernel
theorem dL_writes_41 : decode cL_writes 41 = .ok (.bipush 12, 2) := by decide +kernel
theorem dL_writes_43 : decode cL_writes 43 = .ok (.invokestatic 130, 3) := by decide +kernel
theorem dL_writes_46 : decode cL_writes 46 = .ok (.iload_n 2, 1) := by decide +kernel
theorem dL_writes_47 : decode cL_writes 47 = .ok (.sipush 768, 3) := by decide +kernel
theorem dL_writes_50 : decode cL_writes 50 = .ok (.iand, 1) := by decide +kernel
theorem dL_writes_51 : decode cL_writes 51 = .ok (.ifCond .ne 7, 3) := by decide +kernel
theorem dL_writes_54 : decode cL_writes 54 = .ok (.iconst 1, 1) := by decide +kernel
theorem dL_writes_55 : decode cL_writes 55 = .ok (.goto 4, 3) := by decide +kernel
theorem dL_writes_58 : decode cL_writes 58 = .ok (.iconst 0, 1) := by decide +kernel
theorem dL_writes_59 : decode cL_writes 59 = .ok (.isub, 1) := by decide +kernel
theorem dL_writes_60 : decode cL_writes 60 = .ok (.goto 9, 3) := by decide +kernel
theorem dL_writes_63 : decode cL_writes 63 = .ok (.iload_n 2, 1) := by decide +kernel
theorem dL_writes_64 : decode cL_writes 64 = .ok (.iconst 3, 1) := by decide +kernel
theorem dL_writes_65 : decode cL_writes 65 = .ok (.ishr, 1) := by decide +kernel
theorem dL_writes_66 : decode cL_writes 66 = .ok (.invokestatic 133, 3) := by decide +kernel
theorem dL_writes_69 : decode cL_writes 69 = .ok (.istore 14, 2) := by decide +kernel
theorem dL_writes_71 : decode cL_writes 71 = .ok (.iload_n 2, 1) := by decide +kernel
theorem dL_writes_72 : decode cL_writes 72 = .ok (.bipush 12, 2) := by decide +kernel
theorem dL_writes_74 : decode cL_writes 74 = .ok (.ishr, 1) := by decide +kernel
theorem dL_writes_75 : decode cL_writes 75 = .ok (.invokestatic 133, 3) := by decide +kernel
theorem dL_writes_78 : decode cL_writes 78 = .ok (.istore 15, 2) := by decide +kernel
theorem dL_writes_80 : decode cL_writes 80 = .ok (.iload 12, 2) := by decide +kernel
theorem dL_writes_82 : decode cL_writes 82 = .ok (.iconst 2, 1) := by decide +kernel
theorem dL_writes_83 : decode cL_writes 83 = .ok (.idiv, 1) := by decide +kernel
theorem dL_writes_84 : decode cL_writes 84 = .ok (.iconst 1, 1) := by decide +kernel
theorem dL_writes_85 : decode cL_writes 85 = .ok (.if_icmp .ne 19, 3) := by decide +kernel
theorem dL_writes_88 : decode cL_writes 88 = .ok (.iload_n 3, 1) := by decide +kernel
theorem dL_writes_89 : decode cL_writes 89 = .ok (.sipush 7936, 3) := by decide +kernel
theorem dL_writes_92 : decode cL_writes 92 = .ok (.iand, 1) := by decide +kernel
theorem dL_writes_93 : decode cL_writes 93 = .ok (.ifCond .ne 7, 3) := by decide +kernel
theorem dL_writes_96 : decode cL_writes 96 = .ok (.iconst 1, 1) := by decide +kernel
theorem dL_writes_97 : decode cL_writes 97 = .ok (.goto 13, 3) := by decide +kernel
theorem dL_writes_100 : decode cL_writes 100 = .ok (.iconst 0, 1) := by decide +kernel
theorem dL_writes_101 : decode cL_writes 101 = .ok (.goto 9, 3) := by decide +kernel
theorem dL_writes_104 : decode cL_writes 104 = .ok (.iload_n 3, 1) := by decide +kernel
theorem dL_writes_105 : decode cL_writes 105 = .ok (.iconst 4, 1) := by decide +kernel
theorem dL_writes_106 : decode cL_writes 106 = .ok (.ishr, 1) := by decide +kernel
theorem dL_writes_107 : decode cL_writes 107 = .ok (.invokestatic 133, 3) := by decide +kernel
theorem dL_writes_110 : decode cL_writes 110 = .ok (.istore 16, 2) := by decide +kernel
theorem dL_writes_112 : decode cL_writes 112 = .ok (.iload 12, 2) := by decide +kernel
theorem dL_writes_114 : decode cL_writes 114 = .ok (.iconst 2, 1) := by decide +kernel
theorem dL_writes_115 : decode cL_writes 115 = .ok (.idiv, 1) := by decide +kernel
theorem dL_writes_116 : decode cL_writes 116 = .ok (.iconst 1, 1) := by decide +kernel
theorem dL_writes_117 : decode cL_writes 117 = .ok (.if_icmp .ne 7, 3) := by decide +kernel
theorem dL_writes_120 : decode cL_writes 120 = .ok (.iconst 0, 1) := by decide +kernel
theorem dL_writes_121 : decode cL_writes 121 = .ok (.goto 10, 3) := by decide +kernel
theorem dL_writes_124 : decode cL_writes 124 = .ok (.iload_n 3, 1) := by decide +kernel
theorem dL_writes_125 : decode cL_writes 125 = .ok (.bipush 13, 2) := by decide +kernel
theorem dL_writes_127 : decode cL_writes 127 = .ok (.ishr, 1) := by decide +kernel
theorem dL_writes_128 : decode cL_writes 128 = .ok (.invokestatic 133, 3) := by decide +kernel
theorem dL_writes_131 : decode cL_writes 131 = .ok (.istore 17, 2) := by decide +kernel
theorem dL_writes_133 : decode cL_writes 133 = .ok (.aload_n 0, 1) := by decide +kernel
theorem dL_writes_134 : decode cL_writes 134 = .ok (.bipush 6, 2) := by decide +kernel
theorem dL_writes_136 : decode cL_writes 136 = .ok (.iconst 0, 1) := by decide +kernel
theorem dL_writes_137 : decode cL_writes 137 = .ok (.iconst 0, 1) := by decide +kernel
theorem dL_writes_138 : decode cL_writes 138 = .ok (.iconst 0, 1) := by decide +kernel
theorem dL_writes_139 : decode cL_writes 139 = .ok (.iconst 0, 1) := by decide +kernel
theorem dL_writes_140 : decode cL_writes 140 = .ok (.invokestatic 136, 3) := by decide +kernel
theorem dL_writes_143 : decode cL_writes 143 = .ok (.sipush (-7100), 3) := by decide +kernel
theorem dL_writes_146 : decode cL_writes 146 = .ok (.if_icmp .ne 74, 3) := by decide +kernel
theorem dL_writes_149 : decode cL_writes 149 = .ok (.aload_n 0, 1) := by decide +kernel
theorem dL_writes_150 : decode cL_writes 150 = .ok (.iconst (-1), 1) := by decide +kernel
theorem dL_writes_151 : decode cL_writes 151 = .ok (.iconst 0, 1) := by decide +kernel
theorem dL_writes_152 : decode cL_writes 152 = .ok (.iconst 0, 1) := by decide +kernel
theorem dL_writes_153 : decode cL_writes 153 = .ok (.iconst 0, 1) := by decide +kernel
theorem dL_writes_154 : decode cL_writes 154 = .ok (.sipush 9999, 3) := by decide +kernel
theorem dL_writes_157 : decode cL_writes 157 = .ok (.invokestatic 136, 3) := by decide +kernel
theorem dL_writes_160 : decode cL_writes 160 = .ok (.sipush (-7100), 3) := by decide +kernel
theorem dL_writes_163 : decode cL_writes 163 = .ok (.if_icmp .ne 57, 3) := by decide +kernel
theorem dL_writes_166 : decode cL_writes 166 = .ok (.aload_n 0, 1) := by decide +kernel
theorem dL_writes_167 : decode cL_writes 167 = .ok (.iload 12, 2) := by decide +kernel
theorem dL_writes_169 : decode cL_writes 169 = .ok (.iconst 0, 1) := by decide +kernel
theorem dL_writes_170 : decode cL_writes 170 = .ok (.sipush 1000, 3) := by decide +kernel
theorem dL_writes_173 : decode cL_writes 173 = .ok (.iconst 0, 1) := by decide +kernel
theorem dL_writes_174 : decode cL_writes 174 = .ok (.iconst 0, 1) := by decide +kernel
theorem dL_writes_175 : decode cL_writes 175 = .ok (.invokestatic 136, 3) := by decide +kernel
theorem dL_writes_178 : decode cL_writes 178 = .ok (.sipush (-7200), 3) := by decide +kernel
theorem dL_writes_181 : decode cL_writes 181 = .ok (.if_icmp .ne 39, 3) := by decide +kernel
theorem dL_writes_184 : decode cL_writes 184 = .ok (.aload_n 0, 1) := by decide +kernel
theorem dL_writes_185 : decode cL_writes 185 = .ok (.iload 12, 2) := by decide +kernel
theorem dL_writes_187 : decode cL_writes 187 = .ok (.sipush 4999, 3) := by decide +kernel
theorem dL_writes_190 : decode cL_writes 190 = .ok (.iconst 0, 1) := by decide +kernel
theorem dL_writes_191 : decode cL_writes 191 = .ok (.iconst 0, 1) := by decide +kernel
theorem dL_writes_192 : decode cL_writes 192 = .ok (.iconst 0, 1) := by decide +kernel
theorem dL_writes_193 : decode cL_writes 193 = .ok (.invokestatic 136, 3) := by decide +kernel
theorem dL_writes_196 : decode cL_writes 196 = .ok (.sipush (-7200), 3) := by decide +kernel
theorem dL_writes_199 : decode cL_writes 199 = .ok (.if_icmp .ne 21, 3) := by decide +kernel
theorem dL_writes_202 : decode cL_writes 202 = .ok (.aload_n 0, 1) := by decide +kernel
theorem dL_writes_203 : decode cL_writes 203 = .ok (.iload 12, 2) := by decide +kernel
theorem dL_writes_205 : decode cL_writes 205 = .ok (.iconst 0, 1) := by decide +kernel
theorem dL_writes_206 : decode cL_writes 206 = .ok (.iconst 0, 1) := by decide +kernel
theorem dL_writes_207 : decode cL_writes 207 = .ok (.iconst 0, 1) := by decide +kernel
theorem dL_writes_208 : decode cL_writes 208 = .ok (.sipush (-1000), 3) := by decide +kernel
theorem dL_writes_211 : decode cL_writes 211 = .ok (.invokestatic 136, 3) := by decide +kernel
theorem dL_writes_214 : decode cL_writes 214 = .ok (.sipush (-7200), 3) := by decide +kernel
theorem dL_writes_217 : decode cL_writes 217 = .ok (.if_icmp .eq 5, 3) := by decide +kernel
theorem dL_writes_220 : decode cL_writes 220 = .ok (.iconst 0, 1) := by decide +kernel
theorem dL_writes_221 : decode cL_writes 221 = .ok (.ireturn, 1) := by decide +kernel
theorem dL_writes_222 : decode cL_writes 222 = .ok (.aload 5, 2) := by decide +kernel
theorem dL_writes_224 : decode cL_writes 224 = .ok (.iload 12, 2) := by decide +kernel
theorem dL_writes_226 : decode cL_writes 226 = .ok (.iaload, 1) := by decide +kernel
theorem dL_writes_227 : decode cL_writes 227 = .ok (.bipush 10, 2) := by decide +kernel
theorem dL_writes_229 : decode cL_writes 229 = .ok (.if_icmp .ne 20, 3) := by decide +kernel
theorem dL_writes_232 : decode cL_writes 232 = .ok (.aload_n 0, 1) := by decide +kernel
theorem dL_writes_233 : decode cL_writes 233 = .ok (.iload 12, 2) := by decide +kernel
theorem dL_writes_235 : decode cL_writes 235 = .ok (.invokestatic 139, 3) := by decide +kernel
theorem dL_writes_238 : decode cL_writes 238 = .ok (.bipush 10, 2) := by decide +kernel
theorem dL_writes_240 : decode cL_writes 240 = .ok (.if_icmp .ne 7, 3) := by decide +kernel
theorem dL_writes_243 : decode cL_writes 243 = .ok (.iconst 1, 1) := by decide +kernel
theorem dL_writes_244 : decode cL_writes 244 = .ok (.goto 4, 3) := by decide +kernel
theorem dL_writes_247 : decode cL_writes 247 = .ok (.iconst 0, 1) := by decide +kernel
theorem dL_writes_248 : decode cL_writes 248 = .ok (.ireturn, 1) := by decide +kernel
theorem dL_writes_249 : decode cL_writes 249 = .ok (.aload 4, 2) := by decide +kernel
theorem dL_writes_251 : decode cL_writes 251 = .ok (.aload 5, 2) := by decide +kernel
theorem dL_writes_253 : decode cL_writes 253 = .ok (.aload 10, 2) := by decide +kernel
theorem dL_writes_255 : decode cL_writes 255 = .ok (.iload 12, 2) := by decide +kernel
theorem dL_writes_257 : decode cL_writes 257 = .ok (.iload 14, 2) := by decide +kernel
theorem dL_writes_259 : decode cL_writes 259 = .ok (.iload 15, 2) := by decide +kernel
theorem dL_writes_261 : decode cL_writes 261 = .ok (.iload 16, 2) := by decide +kernel
theorem dL_writes_263 : decode cL_writes 263 = .ok (.iload 17, 2) := by decide +kernel
theorem dL_writes_265 : decode cL_writes 265 = .ok (.invokestatic 142, 3) := by decide +kernel
theorem dL_writes_268 : decode cL_writes 268 = .ok (.istore 18, 2) := by decide +kernel
theorem dL_writes_270 : decode cL_writes 270 = .ok (.iload 18, 2) := by decide +kernel
theorem dL_writes_272 : decode cL_writes 272 = .ok (.ifCond .eq 28, 3) := by decide +kernel
theorem dL_writes_275 : decode cL_writes 275 = .ok (.aload_n 0, 1) := by decide +kernel
theorem dL_writes_276 : decode cL_writes 276 = .ok (.iload 12, 2) := by decide +kernel
theorem dL_writes_278 : decode cL_writes 278 = .ok (.iload 14, 2) := by decide +kernel
theorem dL_writes_280 : decode cL_writes 280 = .ok (.iload 15, 2) := by decide +kernel
theorem dL_writes_282 : decode cL_writes 282 = .ok (.iload 16, 2) := by decide +kernel
theorem dL_writes_284 : decode cL_writes 284 = .ok (.iload 17, 2) := by decide +kernel
theorem dL_writes_286 : decode cL_writes 286 = .ok (.invokestatic 136, 3) := by decide +kernel
theorem dL_writes_289 : decode cL_writes 289 = .ok (.iload 18, 2) := by decide +kernel
theorem dL_writes_291 : decode cL_writes 291 = .ok (.if_icmp .ne 7, 3) := by decide +kernel
theorem dL_writes_294 : decode cL_writes 294 = .ok (.iconst 1, 1) := by decide +kernel
theorem dL_writes_295 : decode cL_writes 295 = .ok (.goto 4, 3) := by decide +kernel
theorem dL_writes_298 : decode cL_writes 298 = .ok (.iconst 0, 1) := by decide +kernel
theorem dL_writes_299 : decode cL_writes 299 = .ok (.ireturn, 1) := by decide +kernel
theorem dL_writes_300 : decode cL_writes 300 = .ok (.iload 12, 2) := by decide +kernel
theorem dL_writes_302 : decode cL_writes 302 = .ok (.iconst 1, 1) := by decide +kernel
theorem dL_writes_303 : decode cL_writes 303 = .ok (.if_icmp .le 8, 3) := by decide +kernel
theorem dL_writes_306 : decode cL_writes 306 = .ok (.iload 14, 2) := by decide +kernel
theorem dL_writes_308 : decode cL_writes 308 = .ok (.goto 11, 3) := by decide +kernel
theorem dL_writes_311 : decode cL_writes 311 = .ok (.aload 10, 2) := by decide +kernel
theorem dL_writes_313 : decode cL_writes 313 = .ok (.bipush 6, 2) := by decide +kernel
theorem dL_writes_315 : decode cL_writes 315 = .ok (.iload 12, 2) := by decide +kernel
theorem dL_writes_317 : decode cL_writes 317 = .ok (.iadd, 1) := by decide +kernel
theorem dL_writes_318 : decode cL_writes 318 = .ok (.iaload, 1) := by decide +kernel
theorem dL_writes_319 : decode cL_writes 319 = .ok (.istore 19, 2) := by decide +kernel
theorem dL_writes_321 : decode cL_writes 321 = .ok (.iload 12, 2) := by decide +kernel
theorem dL_writes_323 : decode cL_writes 323 = .ok (.iconst 2, 1) := by decide +kernel
theorem dL_writes_324 : decode cL_writes 324 = .ok (.if_icmp .ge 15, 3) := by decide +kernel
theorem dL_writes_327 : decode cL_writes 327 = .ok (.aload 10, 2) := by decide +kernel
theorem dL_writes_329 : decode cL_writes 329 = .ok (.bipush 6, 2) := by decide +kernel
theorem dL_writes_331 : decode cL_writes 331 = .ok (.iload 12, 2) := by decide +kernel
theorem dL_writes_333 : decode cL_writes 333 = .ok (.iadd, 1) := by decide +kernel
theorem dL_writes_334 : decode cL_writes 334 = .ok (.dup2, 1) := by decide +kernel
theorem dL_writes_335 : decode cL_writes 335 = .ok (.iaload, 1) := by decide +kernel
theorem dL_writes_336 : decode cL_writes 336 = .ok (.iconst 1, 1) := by decide +kernel
theorem dL_writes_337 : decode cL_writes 337 = .ok (.iadd, 1) := by decide +kernel
theorem dL_writes_338 : decode cL_writes 338 = .ok (.iastore, 1) := by decide +kernel
theorem dL_writes_339 : decode cL_writes 339 = .ok (.aload 4, 2) := by decide +kernel
theorem dL_writes_341 : decode cL_writes 341 = .ok (.aload 5, 2) := by decide +kernel
theorem dL_writes_343 : decode cL_writes 343 = .ok (.iload 12, 2) := by decide +kernel
theorem dL_writes_345 : decode cL_writes 345 = .ok (.iload 19, 2) := by decide +kernel
theorem dL_writes_347 : decode cL_writes 347 = .ok (.iload 14, 2) := by decide +kernel
theorem dL_writes_349 : decode cL_writes 349 = .ok (.aload 11, 2) := by decide +kernel
theorem dL_writes_351 : decode cL_writes 351 = .ok (.iload 12, 2) := by decide +kernel
theorem dL_writes_353 : decode cL_writes 353 = .ok (.iconst 1, 1) := by decide +kernel
theorem dL_writes_354 : decode cL_writes 354 = .ok (.iload 15, 2) := by decide +kernel
theorem dL_writes_356 : decode cL_writes 356 = .ok (.invokestatic 146, 3) := by decide +kernel
theorem dL_writes_359 : decode cL_writes 359 = .ok (.iload 16, 2) := by decide +kernel
theorem dL_writes_361 : decode cL_writes 361 = .ok (.iload 17, 2) := by decide +kernel
theorem dL_writes_363 : decode cL_writes 363 = .ok (.invokestatic 150, 3) := by decide +kernel
theorem dL_writes_366 : decode cL_writes 366 = .ok (.invokestatic 154, 3) := by decide +kernel
theorem dL_writes_369 : decode cL_writes 369 = .ok (.aload 8, 2) := by decide +kernel
theorem dL_writes_371 : decode cL_writes 371 = .ok (.aload 9, 2) := by decide +kernel
theorem dL_writes_373 : decode cL_writes 373 = .ok (.aload 6, 2) := by decide +kernel
theorem dL_writes_375 : decode cL_writes 375 = .ok (.aload 7, 2) := by decide +kernel
theorem dL_writes_377 : decode cL_writes 377 = .ok (.aload 11, 2) := by decide +kernel
theorem dL_writes_379 : decode cL_writes 379 = .ok (.iload 12, 2) := by decide +kernel
theorem dL_writes_381 : decode cL_writes 381 = .ok (.invokestatic 158, 3) := by decide +kernel
theorem dL_writes_384 : decode cL_writes 384 = .ok (.aload_n 0, 1) := by decide +kernel
theorem dL_writes_385 : decode cL_writes 385 = .ok (.iload 12, 2) := by decide +kernel
theorem dL_writes_387 : decode cL_writes 387 = .ok (.iload 14, 2) := by decide +kernel
theorem dL_writes_389 : decode cL_writes 389 = .ok (.iload 15, 2) := by decide +kernel
theorem dL_writes_391 : decode cL_writes 391 = .ok (.iload 16, 2) := by decide +kernel
theorem dL_writes_393 : decode cL_writes 393 = .ok (.iload 17, 2) := by decide +kernel
theorem dL_writes_395 : decode cL_writes 395 = .ok (.invokestatic 136, 3) := by decide +kernel
theorem dL_writes_398 : decode cL_writes 398 = .ok (.iload 19, 2) := by decide +kernel
theorem dL_writes_400 : decode cL_writes 400 = .ok (.if_icmp .ne 7, 3) := by decide +kernel
theorem dL_writes_403 : decode cL_writes 403 = .ok (.iconst 1, 1) := by decide +kernel
theorem dL_writes_404 : decode cL_writes 404 = .ok (.goto 4, 3) := by decide +kernel
theorem dL_writes_407 : decode cL_writes 407 = .ok (.iconst 0, 1) := by decide +kernel
theorem dL_writes_408 : decode cL_writes 408 = .ok (.ireturn, 1) := by decide +kernel
theorem dL_writes_409 : decode cL_writes 409 = .ok (.aload 5, 2) := by decide +kernel
theorem dL_writes_411 : decode cL_writes 411 = .ok (.iload 12, 2) := by decide +kernel
theorem dL_writes_413 : decode cL_writes 413 = .ok (.iaload, 1) := by decide +kernel
theorem dL_writes_414 : decode cL_writes 414 = .ok (.ifCond .le 34, 3) := by decide +kernel
theorem dL_writes_417 : decode cL_writes 417 = .ok (.iload_n 3, 1) := by decide +kernel
theorem dL_writes_418 : decode cL_writes 418 = .ok (.sipush 768, 3) := by decide +kernel
theorem dL_writes_421 : decode cL_writes 421 = .ok (.iand, 1) := by decide +kernel
theorem dL_writes_422 : decode cL_writes 422 = .ok (.ifCond .le 26, 3) := by decide +kernel
theorem dL_writes_425 : decode cL_writes 425 = .ok (.aload 4, 2) := by decide +kernel
theorem dL_writes_427 : decode cL_writes 427 = .ok (.bipush 10, 2) := by decide +kernel
theorem dL_writes_429 : decode cL_writes 429 = .ok (.iload 12, 2) := by decide +kernel
theorem dL_writes_431 : decode cL_writes 431 = .ok (.imul, 1) := by decide +kernel
theorem dL_writes_432 : decode cL_writes 432 = .ok (.iload_n 3, 1) := by decide +kernel
theorem dL_writes_433 : decode cL_writes 433 = .ok (.aload 5, 2) := by decide +kernel
theorem dL_writes_435 : decode cL_writes 435 = .ok (.iload 12, 2) := by decide +kernel
theorem dL_writes_437 : decode cL_writes 437 = .ok (.iaload, 1) := by decide +kernel
theorem dL_writes_438 : decode cL_writes 438 = .ok (.invokestatic 130, 3) := by decide +kernel
theorem dL_writes_441 : decode cL_writes 441 = .ok (.iadd, 1) := by decide +kernel
theorem dL_writes_442 : decode cL_writes 442 = .ok (.laload, 1) := by decide +kernel
theorem dL_writes_443 : decode cL_writes 443 = .ok (.invokestatic 105, 3) := by decide +kernel
theorem dL_writes_446 : decode cL_writes 446 = .ok (.istore 13, 2) := by decide +kernel
theorem dL_writes_448 : decode cL_writes 448 = .ok (.aload 4, 2) := by decide +kernel
theorem dL_writes_450 : decode cL_writes 450 = .ok (.aload 5, 2) := by decide +kernel
theorem dL_writes_452 : decode cL_writes 452 = .ok (.iload 12, 2) := by decide +kernel
theorem dL_writes_454 : decode cL_writes 454 = .ok (.iload 13, 2) := by decide +kernel
theorem dL_writes_456 : decode cL_writes 456 = .ok (.invokestatic 121, 3) := by decide +kernel
theorem dL_writes_459 : decode cL_writes 459 = .ok (.istore 14, 2) := by decide +kernel
theorem dL_writes_461 : decode cL_writes 461 = .ok (.iload_n 1, 1) := by decide +kernel
theorem dL_writes_462 : decode cL_writes 462 = .ok (.bipush 8, 2) := by decide +kernel
theorem dL_writes_464 : decode cL_writes 464 = .ok (.if_icmp .ge 231, 3) := by decide +kernel
theorem dL_writes_467 : decode cL_writes 467 = .ok (.iload_n 3, 1) := by decide +kernel
theorem dL_writes_468 : decode cL_writes 468 = .ok (.bipush 10, 2) := by decide +kernel
theorem dL_writes_470 : decode cL_writes 470 = .ok (.ishr, 1) := by decide +kernel
theorem dL_writes_471 : decode cL_writes 471 = .ok (.iconst 4, 1) := by decide +kernel
theorem dL_writes_472 : decode cL_writes 472 = .ok (.invokestatic 130, 3) := by decide +kernel
theorem dL_writes_475 : decode cL_writes 475 = .ok (.istore 15, 2) := by decide +kernel
theorem dL_writes_477 : decode cL_writes 477 = .ok (.iload_n 2, 1) := by decide +kernel
theorem dL_writes_478 : decode cL_writes 478 = .ok (.bipush 9, 2) := by decide +kernel
theorem dL_writes_480 : decode cL_writes 480 = .ok (.ishr, 1) := by decide +kernel
theorem dL_writes_481 : decode cL_writes 481 = .ok (.invokestatic 133, 3) := by decide +kernel
theorem dL_writes_484 : decode cL_writes 484 = .ok (.istore 16, 2) := by decide +kernel
theorem dL_writes_486 : decode cL_writes 486 = .ok (.aload_n 0, 1) := by decide +kernel
theorem dL_writes_487 : decode cL_writes 487 = .ok (.bipush 6, 2) := by decide +kernel
theorem dL_writes_489 : decode cL_writes 489 = .ok (.iload 13, 2) := by decide +kernel
theorem dL_writes_491 : decode cL_writes 491 = .ok (.iload 15, 2) := by decide +kernel
theorem dL_writes_493 : decode cL_writes 493 = .ok (.iload 16, 2) := by decide +kernel
theorem dL_writes_495 : decode cL_writes 495 = .ok (.invokestatic 162, 3) := by decide +kernel
theorem dL_writes_498 : decode cL_writes 498 = .ok (.sipush (-7100), 3) := by decide +kernel
theorem dL_writes_501 : decode cL_writes 501 = .ok (.if_icmp .ne 53, 3) := by decide +kernel
theorem dL_writes_504 : decode cL_writes 504 = .ok (.aload_n 0, 1) := by decide +kernel
theorem dL_writes_505 : decode cL_writes 505 = .ok (.iload 12, 2) := by decide +kernel
theorem dL_writes_507 : decode cL_writes 507 = .ok (.iload 13, 2) := by decide +kernel
theorem dL_writes_509 : decode cL_writes 509 = .ok (.iconst 4, 1) := by decide +kernel
theorem dL_writes_510 : decode cL_writes 510 = .ok (.iload 16, 2) := by decide +kernel
theorem dL_writes_512 : decode cL_writes 512 = .ok (.invokestatic 162, 3) := by decide +kernel
theorem dL_writes_515 : decode cL_writes 515 = .ok (.sipush (-7100), 3) := by decide +kernel
theorem dL_writes_518 : decode cL_writes 518 = .ok (.if_icmp .ne 36, 3) := by decide +kernel
theorem dL_writes_521 : decode cL_writes 521 = .ok (.aload_n 0, 1) := by decide +kernel
theorem dL_writes_522 : decode cL_writes 522 = .ok (.iload 12, 2) := by decide +kernel
theorem dL_writes_524 : decode cL_writes 524 = .ok (.iload 13, 2) := by decide +kernel
theorem dL_writes_526 : decode cL_writes 526 = .ok (.iconst (-1), 1) := by decide +kernel
theorem dL_writes_527 : decode cL_writes 527 = .ok (.iload 16, 2) := by decide +kernel
theorem dL_writes_529 : decode cL_writes 529 = .ok (.invokestatic 162, 3) := by decide +kernel
theorem dL_writes_532 : decode cL_writes 532 = .ok (.sipush (-7100), 3) := by decide +kernel
theorem dL_writes_535 : decode cL_writes 535 = .ok (.if_icmp .ne 19, 3) := by decide +kernel
theorem dL_writes_538 : decode cL_writes 538 = .ok (.aload_n 0, 1) := by decide +kernel
theorem dL_writes_539 : decode cL_writes 539 = .ok (.iload 12, 2) := by decide +kernel
theorem dL_writes_541 : decode cL_writes 541 = .ok (.iconst (-1), 1) := by decide +kernel
theorem dL_writes_542 : decode cL_writes 542 = .ok (.iconst 1, 1) := by decide +kernel
theorem dL_writes_543 : decode cL_writes 543 = .ok (.iload 16, 2) := by decide +kernel
theorem dL_writes_545 : decode cL_writes 545 = .ok (.invokestatic 162, 3) := by decide +kernel
theorem dL_writes_548 : decode cL_writes 548 = .ok (.sipush (-7100), 3) := by decide +kernel
theorem dL_writes_551 : decode cL_writes 551 = .ok (.if_icmp .eq 5, 3) := by decide +kernel
theorem dL_writes_554 : decode cL_writes 554 = .ok (.iconst 0, 1) := by decide +kernel
theorem dL_writes_555 : decode cL_writes 555 = .ok (.ireturn, 1) := by decide +kernel
theorem dL_writes_556 : decode cL_writes 556 = .ok (.aload 4, 2) := by decide +kernel
theorem dL_writes_558 : decode cL_writes 558 = .ok (.aload 5, 2) := by decide +kernel
theorem dL_writes_560 : decode cL_writes 560 = .ok (.iload 12, 2) := by decide +kernel
theorem dL_writes_562 : decode cL_writes 562 = .ok (.iload 13, 2) := by decide +kernel
theorem dL_writes_564 : decode cL_writes 564 = .ok (.iload 15, 2) := by decide +kernel
theorem dL_writes_566 : decode cL_writes 566 = .ok (.iload 16, 2) := by decide +kernel
theorem dL_writes_568 : decode cL_writes 568 = .ok (.invokestatic 165, 3) := by decide +kernel
theorem dL_writes_571 : decode cL_writes 571 = .ok (.istore 17, 2) := by decide +kernel
theorem dL_writes_573 : decode cL_writes 573 = .ok (.iload 17, 2) := by decide +kernel
theorem dL_writes_575 : decode cL_writes 575 = .ok (.ifCond .eq 26, 3) := by decide +kernel
theorem dL_writes_578 : decode cL_writes 578 = .ok (.aload_n 0, 1) := by decide +kernel
theorem dL_writes_579 : decode cL_writes 579 = .ok (.iload 12, 2) := by decide +kernel
theorem dL_writes_581 : decode cL_writes 581 = .ok (.iload 13, 2) := by decide +kernel
theorem dL_writes_583 : decode cL_writes 583 = .ok (.iload 15, 2) := by decide +kernel
theorem dL_writes_585 : decode cL_writes 585 = .ok (.iload 16, 2) := by decide +kernel
theorem dL_writes_587 : decode cL_writes 587 = .ok (.invokestatic 162, 3) := by decide +kernel
theorem dL_writes_590 : decode cL_writes 590 = .ok (.iload 17, 2) := by decide +kernel
theorem dL_writes_592 : decode cL_writes 592 = .ok (.if_icmp .ne 7, 3) := by decide +kernel
theorem dL_writes_595 : decode cL_writes 595 = .ok (.iconst 1, 1) := by decide +kernel
theorem dL_writes_596 : decode cL_writes 596 = .ok (.goto 4, 3) := by decide +kernel
theorem dL_writes_599 : decode cL_writes 599 = .ok (.iconst 0, 1) := by decide +kernel
theorem dL_writes_600 : decode cL_writes 600 = .ok (.ireturn, 1) := by decide +kernel
theorem dL_writes_601 : decode cL_writes 601 = .ok (.aload 4, 2) := by decide +kernel
theorem dL_writes_603 : decode cL_writes 603 = .ok (.bipush 10, 2) := by decide +kernel
theorem dL_writes_605 : decode cL_writes 605 = .ok (.iload 12, 2) := by decide +kernel
theorem dL_writes_607 : decode cL_writes 607 = .ok (.imul, 1) := by decide +kernel
theorem dL_writes_608 : decode cL_writes 608 = .ok (.iload 14, 2) := by decide +kernel
theorem dL_writes_610 : decode cL_writes 610 = .ok (.iadd, 1) := by decide +kernel
theorem dL_writes_611 : decode cL_writes 611 = .ok (.laload, 1) := by decide +kernel
theorem dL_writes_612 : decode cL_writes 612 = .ok (.iload 15, 2) := by decide +kernel
theorem dL_writes_614 : decode cL_writes 614 = .ok (.invokestatic 169, 3) := by decide +kernel
theorem dL_writes_617 : decode cL_writes 617 = .ok (.istore 18, 2) := by decide +kernel
theorem dL_writes_619 : decode cL_writes 619 = .ok (.aload 4, 2) := by decide +kernel
theorem dL_writes_621 : decode cL_writes 621 = .ok (.bipush 10, 2) := by decide +kernel
theorem dL_writes_623 : decode cL_writes 623 = .ok (.iload 12, 2) := by decide +kernel
theorem dL_writes_625 : decode cL_writes 625 = .ok (.imul, 1) := by decide +kernel
theorem dL_writes_626 : decode cL_writes 626 = .ok (.iload 14, 2) := by decide +kernel
theorem dL_writes_628 : decode cL_writes 628 = .ok (.iadd, 1) := by decide +kernel
theorem dL_writes_629 : decode cL_writes 629 = .ok (.aload 4, 2) := by decide +kernel
theorem dL_writes_631 : decode cL_writes 631 = .ok (.bipush 10, 2) := by decide +kernel
theorem dL_writes_633 : decode cL_writes 633 = .ok (.iload 12, 2) := by decide +kernel
theorem dL_writes_635 : decode cL_writes 635 = .ok (.imul, 1) := by decide +kernel
theorem dL_writes_636 : decode cL_writes 636 = .ok (.iload 14, 2) := by decide +kernel
theorem dL_writes_638 : decode cL_writes 638 = .ok (.iadd, 1) := by decide +kernel
theorem dL_writes_639 : decode cL_writes 639 = .ok (.laload, 1) := by decide +kernel
theorem dL_writes_640 : decode cL_writes 640 = .ok (.iload 15, 2) := by decide +kernel
theorem dL_writes_642 : decode cL_writes 642 = .ok (.aload 11, 2) := by decide +kernel
theorem dL_writes_644 : decode cL_writes 644 = .ok (.iload 12, 2) := by decide +kernel
theorem dL_writes_646 : decode cL_writes 646 = .ok (.iload 15, 2) := by decide +kernel
theorem dL_writes_648 : decode cL_writes 648 = .ok (.iload 16, 2) := by decide +kernel
theorem dL_writes_650 : decode cL_writes 650 = .ok (.invokestatic 146, 3) := by decide +kernel
theorem dL_writes_653 : decode cL_writes 653 = .ok (.invokestatic 173, 3) := by decide +kernel
theorem dL_writes_656 : decode cL_writes 656 = .ok (.lastore, 1) := by decide +kernel
theorem dL_writes_657 : decode cL_writes 657 = .ok (.aload 8, 2) := by decide +kernel
theorem dL_writes_659 : decode cL_writes 659 = .ok (.aload 9, 2) := by decide +kernel
theorem dL_writes_661 : decode cL_writes 661 = .ok (.aload 6, 2) := by decide +kernel
theorem dL_writes_663 : decode cL_writes 663 = .ok (.aload 7, 2) := by decide +kernel
theorem dL_writes_665 : decode cL_writes 665 = .ok (.aload 11, 2) := by decide +kernel
theorem dL_writes_667 : decode cL_writes 667 = .ok (.iload 12, 2) := by decide +kernel
theorem dL_writes_669 : decode cL_writes 669 = .ok (.invokestatic 158, 3) := by decide +kernel
theorem dL_writes_672 : decode cL_writes 672 = .ok (.aload_n 0, 1) := by decide +kernel
theorem dL_writes_673 : decode cL_writes 673 = .ok (.iload 12, 2) := by decide +kernel
theorem dL_writes_675 : decode cL_writes 675 = .ok (.iload 13, 2) := by decide +kernel
theorem dL_writes_677 : decode cL_writes 677 = .ok (.iload 15, 2) := by decide +kernel
theorem dL_writes_679 : decode cL_writes 679 = .ok (.iload 16, 2) := by decide +kernel
theorem dL_writes_681 : decode cL_writes 681 = .ok (.invokestatic 162, 3) := by decide +kernel
theorem dL_writes_684 : decode cL_writes 684 = .ok (.iload 18, 2) := by decide +kernel
theorem dL_writes_686 : decode cL_writes 686 = .ok (.if_icmp .ne 7, 3) := by decide +kernel
theorem dL_writes_689 : decode cL_writes 689 = .ok (.iconst 1, 1) := by decide +kernel
theorem dL_writes_690 : decode cL_writes 690 = .ok (.goto 4, 3) := by decide +kernel
theorem dL_writes_693 : decode cL_writes 693 = .ok (.iconst 0, 1) := by decide +kernel
theorem dL_writes_694 : decode cL_writes 694 = .ok (.ireturn, 1) := by decide +kernel
theorem dL_writes_695 : decode cL_writes 695 = .ok (.iload 14, 2) := by decide +kernel
theorem dL_writes_697 : decode cL_writes 697 = .ok (.ifCond .ge 36, 3) := by decide +kernel
theorem dL_writes_700 : decode cL_writes 700 = .ok (.aload_n 0, 1) := by decide +kernel
theorem dL_writes_701 : decode cL_writes 701 = .ok (.iload 12, 2) := by decide +kernel
theorem dL_writes_703 : decode cL_writes 703 = .ok (.iload 13, 2) := by decide +kernel
theorem dL_writes_705 : decode cL_writes 705 = .ok (.invokestatic 177, 3) := by decide +kernel
theorem dL_writes_708 : decode cL_writes 708 = .ok (.sipush (-7100), 3) := by decide +kernel
theorem dL_writes_711 : decode cL_writes 711 = .ok (.if_icmp .ne 20, 3) := by decide +kernel
theorem dL_writes_714 : decode cL_writes 714 = .ok (.aload_n 0, 1) := by decide +kernel
theorem dL_writes_715 : decode cL_writes 715 = .ok (.bipush 6, 2) := by decide +kernel
theorem dL_writes_717 : decode cL_writes 717 = .ok (.iconst 0, 1) := by decide +kernel
theorem dL_writes_718 : decode cL_writes 718 = .ok (.invokestatic 177, 3) := by decide +kernel
theorem dL_writes_721 : decode cL_writes 721 = .ok (.sipush (-7100), 3) := by decide +kernel
theorem dL_writes_724 : decode cL_writes 724 = .ok (.if_icmp .ne 7, 3) := by decide +kernel
theorem dL_writes_727 : decode cL_writes 727 = .ok (.iconst 1, 1) := by decide +kernel
theorem dL_writes_728 : decode cL_writes 728 = .ok (.goto 4, 3) := by decide +kernel
theorem dL_writes_731 : decode cL_writes 731 = .ok (.iconst 0, 1) := by decide +kernel
theorem dL_writes_732 : decode cL_writes 732 = .ok (.ireturn, 1) := by decide +kernel
theorem dL_writes_733 : decode cL_writes 733 = .ok (.aload 4, 2) := by decide +kernel
theorem dL_writes_735 : decode cL_writes 735 = .ok (.aload 5, 2) := by decide +kernel
theorem dL_writes_737 : decode cL_writes 737 = .ok (.iload 12, 2) := by decide +kernel
theorem dL_writes_739 : decode cL_writes 739 = .ok (.iload 14, 2) := by decide +kernel
theorem dL_writes_741 : decode cL_writes 741 = .ok (.invokestatic 180, 3) := by decide +kernel
theorem dL_writes_744 : decode cL_writes 744 = .ok (.aload 8, 2) := by decide +kernel
theorem dL_writes_746 : decode cL_writes 746 = .ok (.aload 9, 2) := by decide +kernel
theorem dL_writes_748 : decode cL_writes 748 = .ok (.aload 6, 2) := by decide +kernel
theorem dL_writes_750 : decode cL_writes 750 = .ok (.aload 7, 2) := by decide +kernel
theorem dL_writes_752 : decode cL_writes 752 = .ok (.aload 11, 2) := by decide +kernel
theorem dL_writes_754 : decode cL_writes 754 = .ok (.iload 12, 2) := by decide +kernel
theorem dL_writes_756 : decode cL_writes 756 = .ok (.invokestatic 158, 3) := by decide +kernel
theorem dL_writes_759 : decode cL_writes 759 = .ok (.aload_n 0, 1) := by decide +kernel
theorem dL_writes_760 : decode cL_writes 760 = .ok (.iload 12, 2) := by decide +kernel
theorem dL_writes_762 : decode cL_writes 762 = .ok (.iload 13, 2) := by decide +kernel
theorem dL_writes_764 : decode cL_writes 764 = .ok (.invokestatic 177, 3) := by decide +kernel
theorem dL_writes_767 : decode cL_writes 767 = .ok (.aload 5, 2) := by decide +kernel
theorem dL_writes_769 : decode cL_writes 769 = .ok (.iload 12, 2) := by decide +kernel
theorem dL_writes_771 : decode cL_writes 771 = .ok (.iaload, 1) := by decide +kernel
theorem dL_writes_772 : decode cL_writes 772 = .ok (.if_icmp .ne 7, 3) := by decide +kernel
theorem dL_writes_775 : decode cL_writes 775 = .ok (.iconst 1, 1) := by decide +kernel
theorem dL_writes_776 : decode cL_writes 776 = .ok (.goto 4, 3) := by decide +kernel
theorem dL_writes_779 : decode cL_writes 779 = .ok (.iconst 0, 1) := by decide +kernel
theorem dL_writes_780 : decode cL_writes 780 = .ok (.ireturn, 1) := by decide +kernel
theorem dL_cellBy_0 : decode cL_cellBy 0 = .ok (.iload_n 0, 1) := by decide +kernel
theorem dL_cellBy_1 : decode cL_cellBy 1 = .ok (.bipush 12, 2) := by decide +kernel
theorem dL_cellBy_3 : decode cL_cellBy 3 = .ok (.invokestatic 130, 3) := by decide +kernel
theorem dL_cellBy_6 : decode cL_cellBy 6 = .ok (.istore_n 1, 1) := by decide +kernel
theorem dL_cellBy_7 : decode cL_cellBy 7 = .ok (.iload_n 1, 1) := by decide +kernel
theorem dL_cellBy_8 : decode cL_cellBy 8 = .ok (.ifCond .ne 9, 3) := by decide +kernel
theorem dL_cellBy_11 : decode cL_cellBy 11 = .ok (.sipush 5000, 3) := by decide +kernel
theorem dL_cellBy_14 : decode cL_cellBy 14 = .ok (.goto 72, 3) := by decide +kernel
theorem dL_cellBy_17 : decode cL_cellBy 17 = .ok (.iload_n 1, 1) := by decide +kernel
theorem dL_cellBy_18 : decode cL_cellBy 18 = .ok (.iconst 1, 1) := by decide +kernel
theorem dL_cellBy_19 : decode cL_cellBy 19 = .ok (.if_icmp .ne 9, 3) := by decide +kernel
theorem dL_cellBy_22 : decode cL_cellBy 22 = .ok (.sipush 5001, 3) := by decide +kernel
theorem dL_cellBy_25 : decode cL_cellBy 25 = .ok (.goto 61, 3) := by decide +kernel
theorem dL_cellBy_28 : decode cL_cellBy 28 = .ok (.iload_n 1, 1) := by decide +kernel
theorem dL_cellBy_29 : decode cL_cellBy 29 = .ok (.iconst 2, 1) := by decide +kernel
theorem dL_cellBy_30 : decode cL_cellBy 30 = .ok (.if_icmp .ne 19, 3) := by decide +kernel
theorem dL_cellBy_33 : decode cL_cellBy 33 = .ok (.iload_n 0, 1) := by decide +kernel
theorem dL_cellBy_34 : decode cL_cellBy 34 = .ok (.iconst 4, 1) := by decide +kernel
theorem dL_cellBy_35 : decode cL_cellBy 35 = .ok (.ishr, 1) := by decide +kernel
theorem dL_cellBy_36 : decode cL_cellBy 36 = .ok (.sipush 1999, 3) := by decide +kernel
theorem dL_cellBy_39 : decode cL_cellBy 39 = .ok (.invokestatic 130, 3) := by decide +kernel
theorem dL_cellBy_42 : decode cL_cellBy 42 = .ok (.sipush 999, 3) := by decide +kernel
theorem dL_cellBy_45 : decode cL_cellBy 45 = .ok (.isub, 1) := by decide +kernel
theorem dL_cellBy_46 : decode cL_cellBy 46 = .ok (.goto 40, 3) := by decide +kernel
theorem dL_cellBy_49 : decode cL_cellBy 49 = .ok (.iload_n 1, 1) := by decide +kernel
theorem dL_cellBy_50 : decode cL_cellBy 50 = .ok (.iconst 3, 1) := by decide +kernel
theorem dL_cellBy_51 : decode cL_cellBy 51 = .ok (.if_icmp .ne 16, 3) := by decide +kernel
theorem dL_cellBy_54 : decode cL_cellBy 54 = .ok (.bipush 100, 2) := by decide +kernel
theorem dL_cellBy_56 : decode cL_cellBy 56 = .ok (.iload_n 0, 1) := by decide +kernel
theorem dL_cellBy_57 : decode cL_cellBy 57 = .ok (.iconst 4, 1) := by decide +kernel
theorem dL_cellBy_58 : decode cL_cellBy 58 = .ok (.ishr, 1) := by decide +kernel
theorem dL_cellBy_59 : decode cL_cellBy 59 = .ok (.iconst 5, 1) := by decide +kernel
theorem dL_cellBy_60 : decode cL_cellBy 60 = .ok (.invokestatic 130, 3) := by decide +kernel
theorem dL_cellBy_63 : decode cL_cellBy 63 = .ok (.iadd, 1) := by decide +kernel
theorem dL_cellBy_64 : decode cL_cellBy 64 = .ok (.goto 22, 3) := by decide +kernel
theorem dL_cellBy_67 : decode cL_cellBy 67 = .ok (.iload_n 0, 1) := by decide +kernel
theorem dL_cellBy_68 : decode cL_cellBy 68 = .ok (.iconst 4, 1) := by decide +kernel
theorem dL_cellBy_69 : decode cL_cellBy 69 = .ok (.ishr, 1) := by decide +kernel
theorem dL_cellBy_70 : decode cL_cellBy 70 = .ok (.bipush 6, 2) := by decide +kernel
theorem dL_cellBy_72 : decode cL_cellBy 72 = .ok (.invokestatic 130, 3) := by decide +kernel
theorem dL_cellBy_75 : decode cL_cellBy 75 = .ok (.iload_n 1, 1) := by decide +kernel
theorem dL_cellBy_76 : decode cL_cellBy 76 = .ok (.iconst 4, 1) := by decide +kernel
theorem dL_cellBy_77 : decode cL_cellBy 77 = .ok (.if_icmp .ne 7, 3) := by decide +kernel
theorem dL_cellBy_80 : decode cL_cellBy 80 = .ok (.iconst 3, 1) := by decide +kernel
theorem dL_cellBy_81 : decode cL_cellBy 81 = .ok (.goto 4, 3) := by decide +kernel
theorem dL_cellBy_84 : decode cL_cellBy 84 = .ok (.iconst 0, 1) := by decide +kernel
theorem dL_cellBy_85 : decode cL_cellBy 85 = .ok (.isub, 1) := by decide +kernel
theorem dL_cellBy_86 : decode cL_cellBy 86 = .ok (.ireturn, 1) := by decide +kernel
theorem dL_settings_0 : decode cL_settings 0 = .ok (.iload_n 2, 1) := by decide +kernel
theorem dL_settings_1 : decode cL_settings 1 = .ok (.iconst 3, 1) := by decide +kernel
theorem dL_settings_2 : decode cL_settings 2 = .ok (.invokestatic 130, 3) := by decide +kernel
theorem dL_settings_5 : decode cL_settings 5 = .ok (.istore 10, 2) := by decide +kernel
theorem dL_settings_7 : decode cL_settings 7 = .ok (.iload_n 1, 1) := by decide +kernel
theorem dL_settings_8 : decode cL_settings 8 = .ok (.ifCond .ne 169, 3) := by decide +kernel
theorem dL_settings_11 : decode cL_settings 11 = .ok (.iload_n 3, 1) := by decide +kernel
theorem dL_settings_12 : decode cL_settings 12 = .ok (.iconst 5, 1) := by decide +kernel
theorem dL_settings_13 : decode cL_settings 13 = .ok (.invokestatic 130, 3) := by decide +kernel
theorem dL_settings_16 : decode cL_settings 16 = .ok (.ifCond .ne 14, 3) := by decide +kernel
theorem dL_settings_19 : decode cL_settings 19 = .ok (.iload_n 3, 1) := by decide +kernel
theorem dL_settings_20 : decode cL_settings 20 = .ok (.iconst 3, 1) := by decide +kernel
theorem dL_settings_21 : decode cL_settings 21 = .ok (.ishr, 1) := by decide +kernel
theorem dL_settings_22 : decode cL_settings 22 = .ok (.bipush 31, 2) := by decide +kernel
theorem dL_settings_24 : decode cL_settings 24 = .ok (.invokestatic 130, 3) := by decide +kernel
theorem dL_settings_27 : decode cL_settings 27 = .ok (.goto 10, 3) := by decide +kernel
theorem dL_settings_30 : decode cL_settings 30 = .ok (.iload_n 3, 1) := by decide +kernel
theorem dL_settings_31 : decode cL_settings 31 = .ok (.iconst 3, 1) := by decide +kernel
theorem dL_settings_32 : decode cL_settings 32 = .ok (.ishr, 1) := by decide +kernel
theorem dL_settings_33 : decode cL_settings 33 = .ok (.iconst 3, 1) := by decide +kernel
theorem dL_settings_34 : decode cL_settings 34 = .ok (.invokestatic 130, 3) := by decide +kernel
theorem dL_settings_37 : decode cL_settings 37 = .ok (.istore 11, 2) := by decide +kernel
theorem dL_settings_39 : decode cL_settings 39 = .ok (.iload_n 3, 1) := by decide +kernel
theorem dL_settings_40 : decode cL_settings 40 = .ok (.bipush 9, 2) := by decide +kernel
theorem dL_settings_42 : decode cL_settings 42 = .ok (.ishr, 1) := by decide +kernel
theorem dL_settings_43 : decode cL_settings 43 = .ok (.iconst 3, 1) := by decide +kernel
theorem dL_settings_44 : decode cL_settings 44 = .ok (.invokestatic 130, 3) := by decide +kernel
theorem dL_settings_47 : decode cL_settings 47 = .ok (.ifCond .ne 15, 3) := by decide +kernel
theorem dL_settings_50 : decode cL_settings 50 = .ok (.iload_n 3, 1) := by decide +kernel
theorem dL_settings_51 : decode cL_settings 51 = .ok (.bipush 11, 2) := by decide +kernel
theorem dL_settings_53 : decode cL_settings 53 = .ok (.ishr, 1) := by decide +kernel
theorem dL_settings_54 : decode cL_settings 54 = .ok (.bipush 61, 2) := by decide +kernel
theorem dL_settings_56 : decode cL_settings 56 = .ok (.invokestatic 130, 3) := by decide +kernel
theorem dL_settings_59 : decode cL_settings 59 = .ok (.goto 12, 3) := by decide +kernel
theorem dL_settings_62 : decode cL_settings 62 = .ok (.iload_n 3, 1) := by decide +kernel
theorem dL_settings_63 : decode cL_settings 63 = .ok (.bipush 11, 2) := by decide +kernel
theorem dL_settings_65 : decode cL_settings 65 = .ok (.ishr, 1) := by decide +kernel
theorem dL_settings_66 : decode cL_settings 66 = .ok (.bipush 6, 2) := by decide +kernel
theorem dL_settings_68 : decode cL_settings 68 = .ok (.invokestatic 130, 3) := by decide +kernel
theorem dL_settings_71 : decode cL_settings 71 = .ok (.istore 12, 2) := by decide +kernel
theorem dL_settings_73 : decode cL_settings 73 = .ok (.aload_n 0, 1) := by decide +kernel
theorem dL_settings_74 : decode cL_settings 74 = .ok (.iconst 3, 1) := by decide +kernel
theorem dL_settings_75 : decode cL_settings 75 = .ok (.bipush 31, 2) := by decide +kernel
theorem dL_settings_77 : decode cL_settings 77 = .ok (.iconst 0, 1) := by decide +kernel
theorem dL_settings_78 : decode cL_settings 78 = .ok (.invokestatic 184, 3) := by decide +kernel
theorem dL_settings_81 : decode cL_settings 81 = .ok (.sipush (-7100), 3) := by decide +kernel
theorem dL_settings_84 : decode cL_settings 84 = .ok (.if_icmp .ne 47, 3) := by decide +kernel
theorem dL_settings_87 : decode cL_settings 87 = .ok (.aload_n 0, 1) := by decide +kernel
theorem dL_settings_88 : decode cL_settings 88 = .ok (.iload 10, 2) := by decide +kernel
theorem dL_settings_90 : decode cL_settings 90 = .ok (.bipush 31, 2) := by decide +kernel
theorem dL_settings_92 : decode cL_settings 92 = .ok (.iconst 0, 1) := by decide +kernel
theorem dL_settings_93 : decode cL_settings 93 = .ok (.invokestatic 184, 3) := by decide +kernel
theorem dL_settings_96 : decode cL_settings 96 = .ok (.sipush (-7200), 3) := by decide +kernel
theorem dL_settings_99 : decode cL_settings 99 = .ok (.if_icmp .ne 32, 3) := by decide +kernel
theorem dL_settings_102 : decode cL_settings 102 = .ok (.aload_n 0, 1) := by decide +kernel
theorem dL_settings_103 : decode cL_settings 103 = .ok (.iload 10, 2) := by decide +kernel
theorem dL_settings_105 : decode cL_settings 105 = .ok (.iconst 0, 1) := by decide +kernel
theorem dL_settings_106 : decode cL_settings 106 = .ok (.bipush 61, 2) := by decide +kernel
theorem dL_settings_108 : decode cL_settings 108 = .ok (.invokestatic 184, 3) := by decide +kernel
theorem dL_settings_111 : decode cL_settings 111 = .ok (.sipush (-7200), 3) := by decide +kernel
theorem dL_settings_114 : decode cL_settings 114 = .ok (.if_icmp .ne 17, 3) := by decide +kernel
theorem dL_settings_117 : decode cL_settings 117 = .ok (.aload_n 0, 1) := by decide +kernel
theorem dL_settings_118 : decode cL_settings 118 = .ok (.iload 10, 2) := by decide +kernel
theorem dL_settings_120 : decode cL_settings 120 = .ok (.iconst (-1), 1) := by decide +kernel
theorem dL_settings_121 : decode cL_settings 121 = .ok (.iconst 0, 1) := by decide +kernel
theorem dL_settings_122 : decode cL_settings 122 = .ok (.invokestatic 184, 3) := by decide +kernel
theorem dL_settings_125 : decode cL_settings 125 = .ok (.sipush (-7200), 3) := by decide +kernel
theorem dL_settings_128 : decode cL_settings 128 = .ok (.if_icmp .eq 5, 3) := by decide +kernel
theorem dL_settings_131 : decode cL_settings 131 = .ok (.iconst 0, 1) := by decide +kernel
theorem dL_settings_132 : decode cL_settings 132 = .ok (.ireturn, 1) := by decide +kernel
theorem dL_settings_133 : decode cL_settings 133 = .ok (.aload 5, 2) := by decide +kernel
theorem dL_settings_135 : decode cL_settings 135 = .ok (.iload 10, 2) := by decide +kernel
theorem dL_settings_137 : decode cL_settings 137 = .ok (.iaload, 1) := by decide +kernel
theorem dL_settings_138 : decode cL_settings 138 = .ok (.istore 13, 2) := by decide +kernel
theorem dL_settings_140 : decode cL_settings 140 = .ok (.aload 5, 2) := by decide +kernel
theorem dL_settings_142 : decode cL_settings 142 = .ok (.iload 10, 2) := by decide +kernel
theorem dL_settings_144 : decode cL_settings 144 = .ok (.iload 11, 2) := by decide +kernel
theorem dL_settings_146 : decode cL_settings 146 = .ok (.iastore, 1) := by decide +kernel
theorem dL_settings_147 : decode cL_settings 147 = .ok (.aload 5, 2) := by decide +kernel
theorem dL_settings_149 : decode cL_settings 149 = .ok (.iconst 3, 1) := by decide +kernel
theorem dL_settings_150 : decode cL_settings 150 = .ok (.iload 10, 2) := by decide +kernel
theorem dL_settings_152 : decode cL_settings 152 = .ok (.iadd, 1) := by decide +kernel
theorem dL_settings_153 : decode cL_settings 153 = .ok (.iload 12, 2) := by decide +kernel
theorem dL_settings_155 : decode cL_settings 155 = .ok (.iastore, 1) := by decide +kernel
theorem dL_settings_156 : decode cL_settings 156 = .ok (.aload_n 0, 1) := by decide +kernel
theorem dL_settings_157 : decode cL_settings 157 = .ok (.iload 10, 2) := by decide +kernel
theorem dL_settings_159 : decode cL_settings 159 = .ok (.iload 11, 2) := by decide +kernel
theorem dL_settings_161 : decode cL_settings 161 = .ok (.iload 12, 2) := by decide +kernel
theorem dL_settings_163 : decode cL_settings 163 = .ok (.invokestatic 184, 3) := by decide +kernel
theorem dL_settings_166 : decode cL_settings 166 = .ok (.iload 13, 2) := by decide +kernel
theorem dL_settings_168 : decode cL_settings 168 = .ok (.if_icmp .ne 7, 3) := by decide +kernel
theorem dL_settings_171 : decode cL_settings 171 = .ok (.iconst 1, 1) := by decide +kernel
theorem dL_settings_172 : decode cL_settings 172 = .ok (.goto 4, 3) := by decide +kernel
theorem dL_settings_175 : decode cL_settings 175 = .ok (.iconst 0, 1) := by decide +kernel
theorem dL_settings_176 : decode cL_settings 176 = .ok (.ireturn, 1) := by decide +kernel
theorem dL_settings_177 : decode cL_settings 177 = .ok (.iload_n 1, 1) := by decide +kernel
theorem dL_settings_178 : decode cL_settings 178 = .ok (.iconst 1, 1) := by decide +kernel
theorem dL_settings_179 : decode cL_settings 179 = .ok (.if_icmp .ne 185, 3) := by decide +kernel
theorem dL_settings_182 : decode cL_settings 182 = .ok (.iconst 1, 1) := by decide +kernel
theorem dL_settings_183 : decode cL_settings 183 = .ok (.iload_n 3, 1) := by decide +kernel
theorem dL_settings_184 : decode cL_settings 184 = .ok (.iload_n 3, 1) := by decide +kernel
theorem dL_settings_185 : decode cL_settings 185 = .ok (.sipush 768, 3) := by decide +kernel
theorem dL_settings_188 : decode cL_settings 188 = .ok (.iand, 1) := by decide +kernel
theorem dL_settings_189 : decode cL_settings 189 = .ok (.ifCond .ne 8, 3) := by decide +kernel
theorem dL_settings_192 : decode cL_settings 192 = .ok (.bipush 20, 2) := by decide +kernel
theorem dL_settings_194 : decode cL_settings 194 = .ok (.goto 4, 3) := by decide +kernel
theorem dL_settings_197 : decode cL_settings 197 = .ok (.iconst 4, 1) := by decide +kernel
theorem dL_settings_198 : decode cL_settings 198 = .ok (.invokestatic 130, 3) := by decide +kernel
theorem dL_settings_201 : decode cL_settings 201 = .ok (.iadd, 1) := by decide +kernel
theorem dL_settings_202 : decode cL_settings 202 = .ok (.istore 11, 2) := by decide +kernel
theorem dL_settings_204 : decode cL_settings 204 = .ok (.iload_n 3, 1) := by decide +kernel
theorem dL_settings_205 : decode cL_settings 205 = .ok (.bipush 10, 2) := by decide +kernel
theorem dL_settings_207 : decode cL_settings 207 = .ok (.ishr, 1) := by decide +kernel
theorem dL_settings_208 : decode cL_settings 208 = .ok (.iconst 3, 1) := by decide +kernel
theorem dL_settings_209 : decode cL_settings 209 = .ok (.invokestatic 130, 3) := by decide +kernel
theorem dL_settings_212 : decode cL_settings 212 = .ok (.ifCond .ne 15, 3) := by decide +kernel
theorem dL_settings_215 : decode cL_settings 215 = .ok (.iload_n 3, 1) := by decide +kernel
theorem dL_settings_216 : decode cL_settings 216 = .ok (.bipush 12, 2) := by decide +kernel
theorem dL_settings_218 : decode cL_settings 218 = .ok (.ishr, 1) := by decide +kernel
theorem dL_settings_219 : decode cL_settings 219 = .ok (.bipush 13, 2) := by decide +kernel
theorem dL_settings_221 : decode cL_settings 221 = .ok (.invokestatic 130, 3) := by decide +kernel
theorem dL_settings_224 : decode cL_settings 224 = .ok (.goto 14, 3) := by decide +kernel
theorem dL_settings_227 : decode cL_settings 227 = .ok (.bipush 8, 2) := by decide +kernel
theorem dL_settings_229 : decode cL_settings 229 = .ok (.iload_n 3, 1) := by decide +kernel
theorem dL_settings_230 : decode cL_settings 230 = .ok (.bipush 12, 2) := by decide +kernel
theorem dL_settings_232 : decode cL_settings 232 = .ok (.ishr, 1) := by decide +kernel
theorem dL_settings_233 : decode cL_settings 233 = .ok (.iconst 5, 1) := by decide +kernel
theorem dL_settings_234 : decode cL_settings 234 = .ok (.invokestatic 130, 3) := by decide +kernel
theorem dL_settings_237 : decode cL_settings 237 = .ok (.iadd, 1) := by decide +kernel
theorem dL_settings_238 : decode cL_settings 238 = .ok (.istore 12, 2) := by decide +kernel
theorem dL_settings_240 : decode cL_settings 240 = .ok (.aload_n 0, 1) := by decide +kernel
theorem dL_settings_241 : decode cL_settings 241 = .ok (.iconst (-1), 1) := by decide +kernel
theorem dL_settings_242 : decode cL_settings 242 = .ok (.iconst 0, 1) := by decide +kernel
theorem dL_settings_243 : decode cL_settings 243 = .ok (.iconst 0, 1) := by decide +kernel
theorem dL_settings_244 : decode cL_settings 244 = .ok (.invokestatic 187, 3) := by decide +kernel
theorem dL_settings_247 : decode cL_settings 247 = .ok (.sipush (-7100), 3) := by decide +kernel
theorem dL_settings_250 : decode cL_settings 250 = .ok (.if_icmp .ne 61, 3) := by decide +kernel
theorem dL_settings_253 : decode cL_settings 253 = .ok (.aload_n 0, 1) := by decide +kernel
theorem dL_settings_254 : decode cL_settings 254 = .ok (.iload 10, 2) := by decide +kernel
theorem dL_settings_256 : decode cL_settings 256 = .ok (.iconst 0, 1) := by decide +kernel
theorem dL_settings_257 : decode cL_settings 257 = .ok (.iconst 0, 1) := by decide +kernel
theorem dL_settings_258 : decode cL_settings 258 = .ok (.invokestatic 187, 3) := by decide +kernel
theorem dL_settings_261 : decode cL_settings 261 = .ok (.sipush (-7200), 3) := by decide +kernel
theorem dL_settings_264 : decode cL_settings 264 = .ok (.if_icmp .ne 47, 3) := by decide +kernel
theorem dL_settings_267 : decode cL_settings 267 = .ok (.aload_n 0, 1) := by decide +kernel
theorem dL_settings_268 : decode cL_settings 268 = .ok (.iload 10, 2) := by decide +kernel
theorem dL_settings_270 : decode cL_settings 270 = .ok (.bipush 21, 2) := by decide +kernel
theorem dL_settings_272 : decode cL_settings 272 = .ok (.iconst 0, 1) := by decide +kernel
theorem dL_settings_273 : decode cL_settings 273 = .ok (.invokestatic 187, 3) := by decide +kernel
theorem dL_settings_276 : decode cL_settings 276 = .ok (.sipush (-7200), 3) := by decide +kernel
theorem dL_settings_279 : decode cL_settings 279 = .ok (.if_icmp .ne 32, 3) := by decide +kernel
theorem dL_settings_282 : decode cL_settings 282 = .ok (.aload_n 0, 1) := by decide +kernel
theorem dL_settings_283 : decode cL_settings 283 = .ok (.iload 10, 2) := by decide +kernel
theorem dL_settings_285 : decode cL_settings 285 = .ok (.iconst 1, 1) := by decide +kernel
theorem dL_settings_286 : decode cL_settings 286 = .ok (.bipush 13, 2) := by decide +kernel
theorem dL_settings_288 : decode cL_settings 288 = .ok (.invokestatic 187, 3) := by decide +kernel
theorem dL_settings_291 : decode cL_settings 291 = .ok (.sipush (-7200), 3) := by decide +kernel
theorem dL_settings_294 : decode cL_settings 294 = .ok (.if_icmp .ne 17, 3) := by decide +kernel
theorem dL_settings_297 : decode cL_settings 297 = .ok (.aload_n 0, 1) := by decide +kernel
theorem dL_settings_298 : decode cL_settings 298 = .ok (.iload 10, 2) := by decide +kernel
theorem dL_settings_300 : decode cL_settings 300 = .ok (.iconst 1, 1) := by decide +kernel
theorem dL_settings_301 : decode cL_settings 301 = .ok (.iconst (-1), 1) := by decide +kernel
theorem dL_settings_302 : decode cL_settings 302 = .ok (.invokestatic 187, 3) := by decide +kernel
theorem dL_settings_305 : decode cL_settings 305 = .ok (.sipush (-7200), 3) := by decide +kernel
theorem dL_settings_308 : decode cL_settings 308 = .ok (.if_icmp .eq 5, 3) := by decide +kernel
theorem dL_settings_311 : decode cL_settings 311 = .ok (.iconst 0, 1) := by decide +kernel
theorem dL_settings_312 : decode cL_settings 312 = .ok (.ireturn, 1) := by decide +kernel
theorem dL_settings_313 : decode cL_settings 313 = .ok (.aload 5, 2) := by decide +kernel
theorem dL_settings_315 : decode cL_settings 315 = .ok (.bipush 6, 2) := by decide +kernel
theorem dL_settings_317 : decode cL_settings 317 = .ok (.iload 10, 2) := by decide +kernel
theorem dL_settings_319 : decode cL_settings 319 = .ok (.iadd, 1) := by decide +kernel
theorem dL_settings_320 : decode cL_settings 320 = .ok (.iaload, 1) := by decide +kernel
theorem dL_settings_321 : decode cL_settings 321 = .ok (.istore 13, 2) := by decide +kernel
theorem dL_settings_323 : decode cL_settings 323 = .ok (.aload 5, 2) := by decide +kernel
theorem dL_settings_325 : decode cL_settings 325 = .ok (.bipush 6, 2) := by decide +kernel
theorem dL_settings_327 : decode cL_settings 327 = .ok (.iload 10, 2) := by decide +kernel
theorem dL_settings_329 : decode cL_settings 329 = .ok (.iadd, 1) := by decide +kernel
theorem dL_settings_330 : decode cL_settings 330 = .ok (.iload 11, 2) := by decide +kernel
theorem dL_settings_332 : decode cL_settings 332 = .ok (.iastore, 1) := by decide +kernel
theorem dL_settings_333 : decode cL_settings 333 = .ok (.aload 5, 2) := by decide +kernel
theorem dL_settings_335 : decode cL_settings 335 = .ok (.bipush 9, 2) := by decide +kernel
theorem dL_settings_337 : decode cL_settings 337 = .ok (.iload 10, 2) := by decide +kernel
theorem dL_settings_339 : decode cL_settings 339 = .ok (.iadd, 1) := by decide +kernel
theorem dL_settings_340 : decode cL_settings 340 = .ok (.iload 12, 2) := by decide +kernel
theorem dL_settings_342 : decode cL_settings 342 = .ok (.iastore, 1) := by decide +kernel
theorem dL_settings_343 : decode cL_settings 343 = .ok (.aload_n 0, 1) := by decide +kernel
theorem dL_settings_344 : decode cL_settings 344 = .ok (.iload 10, 2) := by decide +kernel
theorem dL_settings_346 : decode cL_settings 346 = .ok (.iload 11, 2) := by decide +kernel
theorem dL_settings_348 : decode cL_settings 348 = .ok (.iload 12, 2) := by decide +kernel
theorem dL_settings_350 : decode cL_settings 350 = .ok (.invokestatic 187, 3) := by decide +kernel
theorem dL_settings_353 : decode cL_settings 353 = .ok (.iload 13, 2) := by decide +kernel
theorem dL_settings_355 : decode cL_settings 355 = .ok (.if_icmp .ne 7, 3) := by decide +kernel
theorem dL_settings_358 : decode cL_settings 358 = .ok (.iconst 1, 1) := by decide +kernel
theorem dL_settings_359 : decode cL_settings 359 = .ok (.goto 4, 3) := by decide +kernel
theorem dL_settings_362 : decode cL_settings 362 = .ok (.iconst 0, 1) := by decide +kernel
theorem dL_settings_363 : decode cL_settings 363 = .ok (.ireturn, 1) := by decide +kernel
theorem dL_settings_364 : decode cL_settings 364 = .ok (.iload_n 1, 1) := by decide +kernel
theorem dL_settings_365 : decode cL_settings 365 = .ok (.iconst 2, 1) := by decide +kernel
theorem dL_settings_366 : decode cL_settings 366 = .ok (.if_icmp .ne 119, 3) := by decide +kernel
theorem dL_settings_369 : decode cL_settings 369 = .ok (.iload_n 3, 1) := by decide +kernel
theorem dL_settings_370 : decode cL_settings 370 = .ok (.iload_n 3, 1) := by decide +kernel
theorem dL_settings_371 : decode cL_settings 371 = .ok (.sipush 768, 3) := by decide +kernel
theorem dL_settings_374 : decode cL_settings 374 = .ok (.iand, 1) := by decide +kernel
theorem dL_settings_375 : decode cL_settings 375 = .ok (.ifCond .ne 9, 3) := by decide +kernel
theorem dL_settings_378 : decode cL_settings 378 = .ok (.sipush 201, 3) := by decide +kernel
theorem dL_settings_381 : decode cL_settings 381 = .ok (.goto 5, 3) := by decide +kernel
theorem dL_settings_384 : decode cL_settings 384 = .ok (.bipush 30, 2) := by decide +kernel
theorem dL_settings_386 : decode cL_settings 386 = .ok (.invokestatic 130, 3) := by decide +kernel
theorem dL_settings_389 : decode cL_settings 389 = .ok (.istore 11, 2) := by decide +kernel
theorem dL_settings_391 : decode cL_settings 391 = .ok (.aload_n 0, 1) := by decide +kernel
theorem dL_settings_392 : decode cL_settings 392 = .ok (.iconst 3, 1) := by decide +kernel
theorem dL_settings_393 : decode cL_settings 393 = .ok (.iconst 0, 1) := by decide +kernel
theorem dL_settings_394 : decode cL_settings 394 = .ok (.invokestatic 189, 3) := by decide +kernel
theorem dL_settings_397 : decode cL_settings 397 = .ok (.sipush (-7100), 3) := by decide +kernel
theorem dL_settings_400 : decode cL_settings 400 = .ok (.if_icmp .ne 31, 3) := by decide +kernel
theorem dL_settings_403 : decode cL_settings 403 = .ok (.aload_n 0, 1) := by decide +kernel
theorem dL_settings_404 : decode cL_settings 404 = .ok (.iload 10, 2) := by decide +kernel
theorem dL_settings_406 : decode cL_settings 406 = .ok (.sipush 201, 3) := by decide +kernel
theorem dL_settings_409 : decode cL_settings 409 = .ok (.invokestatic 189, 3) := by decide +kernel
theorem dL_settings_412 : decode cL_settings 412 = .ok (.sipush (-7200), 3) := by decide +kernel
theorem dL_settings_415 : decode cL_settings 415 = .ok (.if_icmp .ne 16, 3) := by decide +kernel
theorem dL_settings_418 : decode cL_settings 418 = .ok (.aload_n 0, 1) := by decide +kernel
theorem dL_settings_419 : decode cL_settings 419 = .ok (.iload 10, 2) := by decide +kernel
theorem dL_settings_421 : decode cL_settings 421 = .ok (.iconst (-1), 1) := by decide +kernel
theorem dL_settings_422 : decode cL_settings 422 = .ok (.invokestatic 189, 3) := by decide +kernel
theorem dL_settings_425 : decode cL_settings 425 = .ok (.sipush (-7200), 3) := by decide +kernel
theorem dL_settings_428 : decode cL_settings 428 = .ok (.if_icmp .eq 5, 3) := by decide +kernel
theorem dL_settings_431 : decode cL_settings 431 = .ok (.iconst 0, 1) := by decide +kernel
theorem dL_settings_432 : decode cL_settings 432 = .ok (.ireturn, 1) := by decide +kernel
theorem dL_settings_433 : decode cL_settings 433 = .ok (.aload 5, 2) := by decide +kernel
theorem dL_settings_435 : decode cL_settings 435 = .ok (.bipush 12, 2) := by decide +kernel
theorem dL_settings_437 : decode cL_settings 437 = .ok (.iload 10, 2) := by decide +kernel
theorem dL_settings_439 : decode cL_settings 439 = .ok (.iadd, 1) := by decide +kernel
theorem dL_settings_440 : decode cL_settings 440 = .ok (.iaload, 1) := by decide +kernel
theorem dL_settings_441 : decode cL_settings 441 = .ok (.istore 12, 2) := by decide +kernel
theorem dL_settings_443 : decode cL_settings 443 = .ok (.aload 5, 2) := by decide +kernel
theorem dL_settings_445 : decode cL_settings 445 = .ok (.bipush 12, 2) := by decide +kernel
theorem dL_settings_447 : decode cL_settings 447 = .ok (.iload 10, 2) := by decide +kernel
theorem dL_settings_449 : decode cL_settings 449 = .ok (.iadd, 1) := by decide +kernel
theorem dL_settings_450 : decode cL_settings 450 = .ok (.iload 11, 2) := by decide +kernel
theorem dL_settings_452 : decode cL_settings 452 = .ok (.iastore, 1) := by decide +kernel
theorem dL_settings_453 : decode cL_settings 453 = .ok (.aload 6, 2) := by decide +kernel
theorem dL_settings_455 : decode cL_settings 455 = .ok (.aload 7, 2) := by decide +kernel
theorem dL_settings_457 : decode cL_settings 457 = .ok (.aload 4, 2) := by decide +kernel
theorem dL_settings_459 : decode cL_settings 459 = .ok (.aload 5, 2) := by decide +kernel
theorem dL_settings_461 : decode cL_settings 461 = .ok (.aload 9, 2) := by decide +kernel
theorem dL_settings_463 : decode cL_settings 463 = .ok (.invokestatic 113, 3) := by decide +kernel
theorem dL_settings_466 : decode cL_settings 466 = .ok (.aload_n 0, 1) := by decide +kernel
theorem dL_settings_467 : decode cL_settings 467 = .ok (.iload 10, 2) := by decide +kernel
theorem dL_settings_469 : decode cL_settings 469 = .ok (.iload 11, 2) := by decide +kernel
theorem dL_settings_471 : decode cL_settings 471 = .ok (.invokestatic 189, 3) := by decide +kernel
theorem dL_settings_474 : decode cL_settings 474 = .ok (.iload 12, 2) := by decide +kernel
theorem dL_settings_476 : decode cL_settings 476 = .ok (.if_icmp .ne 7, 3) := by decide +kernel
theorem dL_settings_479 : decode cL_settings 479 = .ok (.iconst 1, 1) := by decide +kernel
theorem dL_settings_480 : decode cL_settings 480 = .ok (.goto 4, 3) := by decide +kernel
theorem dL_settings_483 : decode cL_settings 483 = .ok (.iconst 0, 1) := by decide +kernel
theorem dL_settings_484 : decode cL_settings 484 = .ok (.ireturn, 1) := by decide +kernel
theorem dL_settings_485 : decode cL_settings 485 = .ok (.iload_n 1, 1) := by decide +kernel
theorem dL_settings_486 : decode cL_settings 486 = .ok (.iconst 3, 1) := by decide +kernel
theorem dL_settings_487 : decode cL_settings 487 = .ok (.if_icmp .ne 131, 3) := by decide +kernel
theorem dL_settings_490 : decode cL_settings 490 = .ok (.iload_n 3, 1) := by decide +kernel
theorem dL_settings_491 : decode cL_settings 491 = .ok (.iconst 5, 1) := by decide +kernel
theorem dL_settings_492 : decode cL_settings 492 = .ok (.invokestatic 130, 3) := by decide +kernel
theorem dL_settings_495 : decode cL_settings 495 = .ok (.istore 11, 2) := by decide +kernel
theorem dL_settings_497 : decode cL_settings 497 = .ok (.iload_n 3, 1) := by decide +kernel
theorem dL_settings_498 : decode cL_settings 498 = .ok (.sipush 768, 3) := by decide +kernel
theorem dL_settings_501 : decode cL_settings 501 = .ok (.iand, 1) := by decide +kernel
theorem dL_settings_502 : decode cL_settings 502 = .ok (.ifCond .le 7, 3) := by decide +kernel
theorem dL_settings_505 : decode cL_settings 505 = .ok (.iconst 1, 1) := by decide +kernel
theorem dL_settings_506 : decode cL_settings 506 = .ok (.goto 4, 3) := by decide +kernel
theorem dL_settings_509 : decode cL_settings 509 = .ok (.iconst 0, 1) := by decide +kernel
theorem dL_settings_510 : decode cL_settings 510 = .ok (.istore 12, 2) := by decide +kernel
theorem dL_settings_512 : decode cL_settings 512 = .ok (.aload_n 0, 1) := by decide +kernel
theorem dL_settings_513 : decode cL_settings 513 = .ok (.iconst 3, 1) := by decide +kernel
theorem dL_settings_514 : decode cL_settings 514 = .ok (.iconst 0, 1) := by decide +kernel
theorem dL_settings_515 : decode cL_settings 515 = .ok (.iload 12, 2) := by decide +kernel
theorem dL_settings_517 : decode cL_settings 517 = .ok (.invokestatic 191, 3) := by decide +kernel
theorem dL_settings_520 : decode cL_settings 520 = .ok (.sipush (-7100), 3) := by decide +kernel
theorem dL_settings_523 : decode cL_settings 523 = .ok (.if_icmp .ne 34, 3) := by decide +kernel
theorem dL_settings_526 : decode cL_settings 526 = .ok (.aload_n 0, 1) := by decide +kernel
theorem dL_settings_527 : decode cL_settings 527 = .ok (.iload 10, 2) := by decide +kernel
theorem dL_settings_529 : decode cL_settings 529 = .ok (.bipush 21, 2) := by decide +kernel
theorem dL_settings_531 : decode cL_settings 531 = .ok (.iload 12, 2) := by decide +kernel
theorem dL_settings_533 : decode cL_settings 533 = .ok (.invokestatic 191, 3) := by decide +kernel
theorem dL_settings_536 : decode cL_settings 536 = .ok (.sipush (-7200), 3) := by decide +kernel
theorem dL_settings_539 : decode cL_settings 539 = .ok (.if_icmp .ne 18, 3) := by decide +kernel
theorem dL_settings_542 : decode cL_settings 542 = .ok (.aload_n 0, 1) := by decide +kernel
theorem dL_settings_543 : decode cL_settings 543 = .ok (.iload 10, 2) := by decide +kernel
theorem dL_settings_545 : decode cL_settings 545 = .ok (.iconst (-1), 1) := by decide +kernel
theorem dL_settings_546 : decode cL_settings 546 = .ok (.iload 12, 2) := by decide +kernel
theorem dL_settings_548 : decode cL_settings 548 = .ok (.invokestatic 191, 3) := by decide +kernel
theorem dL_settings_551 : decode cL_settings 551 = .ok (.sipush (-7200), 3) := by decide +kernel
theorem dL_settings_554 : decode cL_settings 554 = .ok (.if_icmp .eq 5, 3) := by decide +kernel
theorem dL_settings_557 : decode cL_settings 557 = .ok (.iconst 0, 1) := by decide +kernel
theorem dL_settings_558 : decode cL_settings 558 = .ok (.ireturn, 1) := by decide +kernel
theorem dL_settings_559 : decode cL_settings 559 = .ok (.aload 5, 2) := by decide +kernel
theorem dL_settings_561 : decode cL_settings 561 = .ok (.bipush 15, 2) := by decide +kernel
theorem dL_settings_563 : decode cL_settings 563 = .ok (.iload 10, 2) := by decide +kernel
theorem dL_settings_565 : decode cL_settings 565 = .ok (.iadd, 1) := by decide +kernel
theorem dL_settings_566 : decode cL_settings 566 = .ok (.iaload, 1) := by decide +kernel
theorem dL_settings_567 : decode cL_settings 567 = .ok (.istore 13, 2) := by decide +kernel
theorem dL_settings_569 : decode cL_settings 569 = .ok (.aload 5, 2) := by decide +kernel
theorem dL_settings_571 : decode cL_settings 571 = .ok (.bipush 15, 2) := by decide +kernel
theorem dL_settings_573 : decode cL_settings 573 = .ok (.iload 10, 2) := by decide +kernel
theorem dL_settings_575 : decode cL_settings 575 = .ok (.iadd, 1) := by decide +kernel
theorem dL_settings_576 : decode cL_settings 576 = .ok (.iload 11, 2) := by decide +kernel
theorem dL_settings_578 : decode cL_settings 578 = .ok (.iastore, 1) := by decide +kernel
theorem dL_settings_579 : decode cL_settings 579 = .ok (.aload 5, 2) := by decide +kernel
theorem dL_settings_581 : decode cL_settings 581 = .ok (.bipush 18, 2) := by decide +kernel
theorem dL_settings_583 : decode cL_settings 583 = .ok (.iload 10, 2) := by decide +kernel
theorem dL_settings_585 : decode cL_settings 585 = .ok (.iadd, 1) := by decide +kernel
theorem dL_settings_586 : decode cL_settings 586 = .ok (.iload 12, 2) := by decide +kernel
theorem dL_settings_588 : decode cL_settings 588 = .ok (.ifCond .eq 7, 3) := by decide +kernel
theorem dL_settings_591 : decode cL_settings 591 = .ok (.iconst 1, 1) := by decide +kernel
theorem dL_settings_592 : decode cL_settings 592 = .ok (.goto 4, 3) := by decide +kernel
theorem dL_settings_595 : decode cL_settings 595 = .ok (.iconst 0, 1) := by decide +kernel
theorem dL_settings_596 : decode cL_settings 596 = .ok (.iastore, 1) := by decide +kernel
theorem dL_settings_597 : decode cL_settings 597 = .ok (.aload_n 0, 1) := by decide +kernel
theorem dL_settings_598 : decode cL_settings 598 = .ok (.iload 10, 2) := by decide +kernel
theorem dL_settings_600 : decode cL_settings 600 = .ok (.iload 11, 2) := by decide +kernel
theorem dL_settings_602 : decode cL_settings 602 = .ok (.iload 12, 2) := by decide +kernel
theorem dL_settings_604 : decode cL_settings 604 = .ok (.invokestatic 191, 3) := by decide +kernel
theorem dL_settings_607 : decode cL_settings 607 = .ok (.iload 13, 2) := by decide +kernel
theorem dL_settings_609 : decode cL_settings 609 = .ok (.if_icmp .ne 7, 3) := by decide +kernel
theorem dL_settings_612 : decode cL_settings 612 = .ok (.iconst 1, 1) := by decide +kernel
theorem dL_settings_613 : decode cL_settings 613 = .ok (.goto 4, 3) := by decide +kernel
theorem dL_settings_616 : decode cL_settings 616 = .ok (.iconst 0, 1) := by decide +kernel
theorem dL_settings_617 : decode cL_settings 617 = .ok (.ireturn, 1) := by decide +kernel
theorem dL_settings_618 : decode cL_settings 618 = .ok (.iload_n 1, 1) := by decide +kernel
theorem dL_settings_619 : decode cL_settings 619 = .ok (.iconst 4, 1) := by decide +kernel
theorem dL_settings_620 : decode cL_settings 620 = .ok (.if_icmp .ne 152, 3) := by decide +kernel
theorem dL_settings_623 : decode cL_settings 623 = .ok (.iload_n 3, 1) := by decide +kernel
theorem dL_settings_624 : decode cL_settings 624 = .ok (.bipush 6, 2) := by decide +kernel
theorem dL_settings_626 : decode cL_settings 626 = .ok (.invokestatic 130, 3) := by decide +kernel
theorem dL_settings_629 : decode cL_settings 629 = .ok (.istore 11, 2) := by decide +kernel
theorem dL_settings_631 : decode cL_settings 631 = .ok (.iload_n 3, 1) := by decide +kernel
theorem dL_settings_632 : decode cL_settings 632 = .ok (.sipush 768, 3) := by decide +kernel
theorem dL_settings_635 : decode cL_settings 635 = .ok (.iand, 1) := by decide +kernel
theorem dL_settings_636 : decode cL_settings 636 = .ok (.ifCond .ne 7, 3) := by decide +kernel
theorem dL_settings_639 : decode cL_settings 639 = .ok (.iconst 1, 1) := by decide +kernel
theorem dL_settings_640 : decode cL_settings 640 = .ok (.goto 4, 3) := by decide +kernel
theorem dL_settings_643 : decode cL_settings 643 = .ok (.iconst 0, 1) := by decide +kernel
theorem dL_settings_644 : decode cL_settings 644 = .ok (.istore 12, 2) := by decide +kernel
theorem dL_settings_646 : decode cL_settings 646 = .ok (.aload 8, 2) := by decide +kernel
theorem dL_settings_648 : decode cL_settings 648 = .ok (.bipush 8, 2) := by decide +kernel
theorem dL_settings_650 : decode cL_settings 650 = .ok (.iload 11, 2) := by decide +kernel
theorem dL_settings_652 : decode cL_settings 652 = .ok (.iadd, 1) := by decide +kernel
theorem dL_settings_653 : decode cL_settings 653 = .ok (.iaload, 1) := by decide +kernel
theorem dL_settings_654 : decode cL_settings 654 = .ok (.iload 10, 2) := by decide +kernel
theorem dL_settings_656 : decode cL_settings 656 = .ok (.ishr, 1) := by decide +kernel
theorem dL_settings_657 : decode cL_settings 657 = .ok (.iconst 1, 1) := by decide +kernel
theorem dL_settings_658 : decode cL_settings 658 = .ok (.iand, 1) := by decide +kernel
theorem dL_settings_659 : decode cL_settings 659 = .ok (.iconst 1, 1) := by decide +kernel
theorem dL_settings_660 : decode cL_settings 660 = .ok (.if_icmp .ne 7, 3) := by decide +kernel
theorem dL_settings_663 : decode cL_settings 663 = .ok (.iconst 1, 1) := by decide +kernel
theorem dL_settings_664 : decode cL_settings 664 = .ok (.goto 4, 3) := by decide +kernel
theorem dL_settings_667 : decode cL_settings 667 = .ok (.iconst 0, 1) := by decide +kernel
theorem dL_settings_668 : decode cL_settings 668 = .ok (.istore 13, 2) := by decide +kernel
theorem dL_settings_670 : decode cL_settings 670 = .ok (.aload 8, 2) := by decide +kernel
theorem dL_settings_672 : decode cL_settings 672 = .ok (.bipush 8, 2) := by decide +kernel
theorem dL_settings_674 : decode cL_settings 674 = .ok (.iload 11, 2) := by decide +kernel
theorem dL_settings_676 : decode cL_settings 676 = .ok (.iadd, 1) := by decide +kernel
theorem dL_settings_677 : decode cL_settings 677 = .ok (.iload 12, 2) := by decide +kernel
theorem dL_settings_679 : decode cL_settings 679 = .ok (.ifCond .eq 19, 3) := by decide +kernel
theorem dL_settings_682 : decode cL_settings 682 = .ok (.aload 8, 2) := by decide +kernel
theorem dL_settings_684 : decode cL_settings 684 = .ok (.bipush 8, 2) := by decide +kernel
theorem dL_settings_686 : decode cL_settings 686 = .ok (.iload 11, 2) := by decide +kernel
theorem dL_settings_688 : decode cL_settings 688 = .ok (.iadd, 1) := by decide +kernel
theorem dL_settings_689 : decode cL_settings 689 = .ok (.iaload, 1) := by decide +kernel
theorem dL_settings_690 : decode cL_settings 690 = .ok (.iconst 1, 1) := by decide +kernel
theorem dL_settings_691 : decode cL_settings 691 = .ok (.iload 10, 2) := by decide +kernel
theorem dL_settings_693 : decode cL_settings 693 = .ok (.ishl, 1) := by decide +kernel
theorem dL_settings_694 : decode cL_settings 694 = .ok (.ior, 1) := by decide +kernel
theorem dL_settings_695 : decode cL_settings 695 = .ok (.goto 18, 3) := by decide +kernel
theorem dL_settings_698 : decode cL_settings 698 = .ok (.aload 8, 2) := by decide +kernel
theorem dL_settings_700 : decode cL_settings 700 = .ok (.bipush 8, 2) := by decide +kernel
theorem dL_settings_702 : decode cL_settings 702 = .ok (.iload 11, 2) := by decide +kernel
theorem dL_settings_704 : decode cL_settings 704 = .ok (.iadd, 1) := by decide +kernel
theorem dL_settings_705 : decode cL_settings 705 = .ok (.iaload, 1) := by decide +kernel
theorem dL_settings_706 : decode cL_settings 706 = .ok (.iconst 1, 1) := by decide +kernel
theorem dL_settings_707 : decode cL_settings 707 = .ok (.iload 10, 2) := by decide +kernel
theorem dL_settings_709 : decode cL_settings 709 = .ok (.ishl, 1) := by decide +kernel
theorem dL_settings_710 : decode cL_settings 710 = .ok (.iconst (-1), 1) := by decide +kernel
theorem dL_settings_711 : decode cL_settings 711 = .ok (.ixor, 1) := by decide +kernel
theorem dL_settings_712 : decode cL_settings 712 = .ok (.iand, 1) := by decide +kernel
theorem dL_settings_713 : decode cL_settings 713 = .ok (.iastore, 1) := by decide +kernel
theorem dL_settings_714 : decode cL_settings 714 = .ok (.aload_n 0, 1) := by decide +kernel
theorem dL_settings_715 : decode cL_settings 715 = .ok (.bipush 6, 2) := by decide +kernel
theorem dL_settings_717 : decode cL_settings 717 = .ok (.iconst 0, 1) := by decide +kernel
theorem dL_settings_718 : decode cL_settings 718 = .ok (.iload 12, 2) := by decide +kernel
theorem dL_settings_720 : decode cL_settings 720 = .ok (.invokestatic 194, 3) := by decide +kernel
theorem dL_settings_723 : decode cL_settings 723 = .ok (.sipush (-7100), 3) := by decide +kernel
theorem dL_settings_726 : decode cL_settings 726 = .ok (.if_icmp .ne 44, 3) := by decide +kernel
theorem dL_settings_729 : decode cL_settings 729 = .ok (.aload_n 0, 1) := by decide +kernel
theorem dL_settings_730 : decode cL_settings 730 = .ok (.iconst 0, 1) := by decide +kernel
theorem dL_settings_731 : decode cL_settings 731 = .ok (.iconst 3, 1) := by decide +kernel
theorem dL_settings_732 : decode cL_settings 732 = .ok (.iload 12, 2) := by decide +kernel
theorem dL_settings_734 : decode cL_settings 734 = .ok (.invokestatic 194, 3) := by decide +kernel
theorem dL_settings_737 : decode cL_settings 737 = .ok (.sipush (-7100), 3) := by decide +kernel
theorem dL_settings_740 : decode cL_settings 740 = .ok (.if_icmp .ne 30, 3) := by decide +kernel
theorem dL_settings_743 : decode cL_settings 743 = .ok (.aload_n 0, 1) := by decide +kernel
theorem dL_settings_744 : decode cL_settings 744 = .ok (.iload 11, 2) := by decide +kernel
theorem dL_settings_746 : decode cL_settings 746 = .ok (.iload 10, 2) := by decide +kernel
theorem dL_settings_748 : decode cL_settings 748 = .ok (.iload 12, 2) := by decide +kernel
theorem dL_settings_750 : decode cL_settings 750 = .ok (.invokestatic 194, 3) := by decide +kernel
theorem dL_settings_753 : decode cL_settings 753 = .ok (.iload 13, 2) := by decide +kernel
theorem dL_settings_755 : decode cL_settings 755 = .ok (.ifCond .eq 7, 3) := by decide +kernel
theorem dL_settings_758 : decode cL_settings 758 = .ok (.iconst 1, 1) := by decide +kernel
theorem dL_settings_759 : decode cL_settings 759 = .ok (.goto 4, 3) := by decide +kernel
theorem dL_settings_762 : decode cL_settings 762 = .ok (.iconst 0, 1) := by decide +kernel
theorem dL_settings_763 : decode cL_settings 763 = .ok (.if_icmp .ne 7, 3) := by decide +kernel
theorem dL_settings_766 : decode cL_settings 766 = .ok (.iconst 1, 1) := by decide +kernel
theorem dL_settings_767 : decode cL_settings 767 = .ok (.goto 4, 3) := by decide +kernel
theorem dL_settings_770 : decode cL_settings 770 = .ok (.iconst 0, 1) := by decide +kernel
theorem dL_settings_771 : decode cL_settings 771 = .ok (.ireturn, 1) := by decide +kernel
theorem dL_settings_772 : decode cL_settings 772 = .ok (.iconst 1, 1) := by decide +kernel
theorem dL_settings_773 : decode cL_settings 773 = .ok (.iload_n 3, 1) := by decide +kernel
theorem dL_settings_774 : decode cL_settings 774 = .ok (.iload_n 3, 1) := by decide +kernel
theorem dL_settings_775 : decode cL_settings 775 = .ok (.sipush 768, 3) := by decide +kernel
theorem dL_settings_778 : decode cL_settings 778 = .ok (.iand, 1) := by decide +kernel
theorem dL_settings_779 : decode cL_settings 779 = .ok (.ifCond .ne 8, 3) := by decide +kernel
theorem dL_settings_782 : decode cL_settings 782 = .ok (.bipush 100, 2) := by decide +kernel
theorem dL_settings_784 : decode cL_settings 784 = .ok (.goto 5, 3) := by decide +kernel
theorem dL_settings_787 : decode cL_settings 787 = .ok (.bipush 12, 2) := by decide +kernel
theorem dL_settings_789 : decode cL_settings 789 = .ok (.invokestatic 130, 3) := by decide +kernel
theorem dL_settings_792 : decode cL_settings 792 = .ok (.iadd, 1) := by decide +kernel
theorem dL_settings_793 : decode cL_settings 793 = .ok (.istore 11, 2) := by decide +kernel
theorem dL_settings_795 : decode cL_settings 795 = .ok (.aload 9, 2) := by decide +kernel
theorem dL_settings_797 : decode cL_settings 797 = .ok (.iconst 1, 1) := by decide +kernel
theorem dL_settings_798 : decode cL_settings 798 = .ok (.dup2, 1) := by decide +kernel
theorem dL_settings_799 : decode cL_settings 799 = .ok (.iaload, 1) := by decide +kernel
theorem dL_settings_800 : decode cL_settings 800 = .ok (.iload 11, 2) := by decide +kernel
theorem dL_settings_802 : decode cL_settings 802 = .ok (.iadd, 1) := by decide +kernel
theorem dL_settings_803 : decode cL_settings 803 = .ok (.iastore, 1) := by decide +kernel
theorem dL_settings_804 : decode cL_settings 804 = .ok (.aload 6, 2) := by decide +kernel
theorem dL_settings_806 : decode cL_settings 806 = .ok (.aload 7, 2) := by decide +kernel
theorem dL_settings_808 : decode cL_settings 808 = .ok (.aload 4, 2) := by decide +kernel
theorem dL_settings_810 : decode cL_settings 810 = .ok (.aload 5, 2) := by decide +kernel
theorem dL_settings_812 : decode cL_settings 812 = .ok (.aload 9, 2) := by decide +kernel
theorem dL_settings_814 : decode cL_settings 814 = .ok (.invokestatic 113, 3) := by decide +kernel
theorem dL_settings_817 : decode cL_settings 817 = .ok (.aload_n 0, 1) := by decide +kernel
theorem dL_settings_818 : decode cL_settings 818 = .ok (.iconst 0, 1) := by decide +kernel
theorem dL_settings_819 : decode cL_settings 819 = .ok (.invokestatic 196, 3) := by decide +kernel
theorem dL_settings_822 : decode cL_settings 822 = .ok (.sipush (-7200), 3) := by decide +kernel
theorem dL_settings_825 : decode cL_settings 825 = .ok (.if_icmp .ne 32, 3) := by decide +kernel
theorem dL_settings_828 : decode cL_settings 828 = .ok (.aload_n 0, 1) := by decide +kernel
theorem dL_settings_829 : decode cL_settings 829 = .ok (.bipush 101, 2) := by decide +kernel
theorem dL_settings_831 : decode cL_settings 831 = .ok (.invokestatic 196, 3) := by decide +kernel
theorem dL_settings_834 : decode cL_settings 834 = .ok (.sipush (-7200), 3) := by decide +kernel
theorem dL_settings_837 : decode cL_settings 837 = .ok (.if_icmp .ne 20, 3) := by decide +kernel
theorem dL_settings_840 : decode cL_settings 840 = .ok (.aload_n 0, 1) := by decide +kernel
theorem dL_settings_841 : decode cL_settings 841 = .ok (.iload 11, 2) := by decide +kernel
theorem dL_settings_843 : decode cL_settings 843 = .ok (.invokestatic 196, 3) := by decide +kernel
theorem dL_settings_846 : decode cL_settings 846 = .ok (.aload 9, 2) := by decide +kernel
theorem dL_settings_848 : decode cL_settings 848 = .ok (.iconst 1, 1) := by decide +kernel
theorem dL_settings_849 : decode cL_settings 849 = .ok (.iaload, 1) := by decide +kernel
theorem dL_settings_850 : decode cL_settings 850 = .ok (.if_icmp .ne 7, 3) := by decide +kernel
theorem dL_settings_853 : decode cL_settings 853 = .ok (.iconst 1, 1) := by decide +kernel
theorem dL_settings_854 : decode cL_settings 854 = .ok (.goto 4, 3) := by decide +kernel
theorem dL_settings_857 : decode cL_settings 857 = .ok (.iconst 0, 1) := by decide +kernel
theorem dL_settings_858 : decode cL_settings 858 = .ok (.ireturn, 1) := by decide +kernel
theorem dL_drafts_0 : decode cL_drafts 0 = .ok (.iload_n 2, 1) := by decide +kernel
theorem dL_drafts_1 : decode cL_drafts 1 = .ok (.aload 4, 2) := by decide +kernel
theorem dL_drafts_3 : decode cL_drafts 3 = .ok (.iconst 0, 1) := by decide +kernel
theorem dL_drafts_4 : decode cL_drafts 4 = .ok (.iaload, 1) := by decide +kernel
theorem dL_drafts_5 : decode cL_drafts 5 = .ok (.iconst 1, 1) := by decide +kernel
theorem dL_drafts_6 : decode cL_drafts 6 = .ok (.iadd, 1) := by decide +kernel
theorem dL_drafts_7 : decode cL_drafts 7 = .ok (.invokestatic 130, 3) := by decide +kernel
theorem dL_drafts_10 : decode cL_drafts 10 = .ok (.istore 5, 2) := by decide +kernel
theorem dL_drafts_12 : decode cL_drafts 12 = .ok (.iload_n 1, 1) := by decide +kernel
theorem dL_drafts_13 : decode cL_drafts 13 = .ok (.iconst 2, 1) := by decide +kernel
theorem dL_drafts_14 : decode cL_drafts 14 = .ok (.if_icmp .ge 103, 3) := by decide +kernel
theorem dL_drafts_17 : decode cL_drafts 17 = .ok (.iload_n 3, 1) := by decide +kernel
theorem dL_drafts_18 : decode cL_drafts 18 = .ok (.bipush 6, 2) := by decide +kernel
theorem dL_drafts_20 : decode cL_drafts 20 = .ok (.invokestatic 130, 3) := by decide +kernel
theorem dL_drafts_23 : decode cL_drafts 23 = .ok (.istore 6, 2) := by decide +kernel
theorem dL_drafts_25 : decode cL_drafts 25 = .ok (.aload_n 0, 1) := by decide +kernel
theorem dL_drafts_26 : decode cL_drafts 26 = .ok (.bipush 6, 2) := by decide +kernel
theorem dL_drafts_28 : decode cL_drafts 28 = .ok (.invokestatic 198, 3) := by decide +kernel
theorem dL_drafts_31 : decode cL_drafts 31 = .ok (.sipush (-7100), 3) := by decide +kernel
theorem dL_drafts_34 : decode cL_drafts 34 = .ok (.if_icmp .ne 14, 3) := by decide +kernel
theorem dL_drafts_37 : decode cL_drafts 37 = .ok (.aload_n 0, 1) := by decide +kernel
theorem dL_drafts_38 : decode cL_drafts 38 = .ok (.iconst (-1), 1) := by decide +kernel
theorem dL_drafts_39 : decode cL_drafts 39 = .ok (.invokestatic 198, 3) := by decide +kernel
theorem dL_drafts_42 : decode cL_drafts 42 = .ok (.sipush (-7100), 3) := by decide +kernel
theorem dL_drafts_45 : decode cL_drafts 45 = .ok (.if_icmp .eq 5, 3) := by decide +kernel
theorem dL_drafts_48 : decode cL_drafts 48 = .ok (.iconst 0, 1) := by decide +kernel
theorem dL_drafts_49 : decode cL_drafts 49 = .ok (.ireturn, 1) := by decide +kernel
theorem dL_drafts_50 : decode cL_drafts 50 = .ok (.aload 4, 2) := by decide +kernel
theorem dL_drafts_52 : decode cL_drafts 52 = .ok (.iconst 0, 1) := by decide +kernel
theorem dL_drafts_53 : decode cL_drafts 53 = .ok (.iaload, 1) := by decide +kernel
theorem dL_drafts_54 : decode cL_drafts 54 = .ok (.iconst 3, 1) := by decide +kernel
theorem dL_drafts_55 : decode cL_drafts 55 = .ok (.if_icmp .ne 21, 3) := by decide +kernel
theorem dL_drafts_58 : decode cL_drafts 58 = .ok (.aload_n 0, 1) := by decide +kernel
theorem dL_drafts_59 : decode cL_drafts 59 = .ok (.iload 6, 2) := by decide +kernel
theorem dL_drafts_61 : decode cL_drafts 61 = .ok (.invokestatic 198, 3) := by decide +kernel
theorem dL_drafts_64 : decode cL_drafts 64 = .ok (.sipush (-7300), 3) := by decide +kernel
theorem dL_drafts_67 : decode cL_drafts 67 = .ok (.if_icmp .ne 7, 3) := by decide +kernel
theorem dL_drafts_70 : decode cL_drafts 70 = .ok (.iconst 1, 1) := by decide +kernel
theorem dL_drafts_71 : decode cL_drafts 71 = .ok (.goto 4, 3) := by decide +kernel
theorem dL_drafts_74 : decode cL_drafts 74 = .ok (.iconst 0, 1) := by decide +kernel
theorem dL_drafts_75 : decode cL_drafts 75 = .ok (.ireturn, 1) := by decide +kernel
theorem dL_drafts_76 : decode cL_drafts 76 = .ok (.aload 4, 2) := by decide +kernel
theorem dL_drafts_78 : decode cL_drafts 78 = .ok (.bipush 6, 2) := by decide +kernel
theorem dL_drafts_80 : decode cL_drafts 80 = .ok (.aload 4, 2) := by decide +kernel
theorem dL_drafts_82 : decode cL_drafts 82 = .ok (.iconst 0, 1) := by decide +kernel
theorem dL_drafts_83 : decode cL_drafts 83 = .ok (.iaload, 1) := by decide +kernel
theorem dL_drafts_84 : decode cL_drafts 84 = .ok (.iadd, 1) := by decide +kernel
theorem dL_drafts_85 : decode cL_drafts 85 = .ok (.iload 6, 2) := by decide +kernel
theorem dL_drafts_87 : decode cL_drafts 87 = .ok (.iastore, 1) := by decide +kernel
theorem dL_drafts_88 : decode cL_drafts 88 = .ok (.aload 4, 2) := by decide +kernel
theorem dL_drafts_90 : decode cL_drafts 90 = .ok (.iconst 0, 1) := by decide +kernel
theorem dL_drafts_91 : decode cL_drafts 91 = .ok (.dup2, 1) := by decide +kernel
theorem dL_drafts_92 : decode cL_drafts 92 = .ok (.iaload, 1) := by decide +kernel
theorem dL_drafts_93 : decode cL_drafts 93 = .ok (.iconst 1, 1) := by decide +kernel
theorem dL_drafts_94 : decode cL_drafts 94 = .ok (.iadd, 1) := by decide +kernel
theorem dL_drafts_95 : decode cL_drafts 95 = .ok (.iastore, 1) := by decide +kernel
theorem dL_drafts_96 : decode cL_drafts 96 = .ok (.aload_n 0, 1) := by decide +kernel
theorem dL_drafts_97 : decode cL_drafts 97 = .ok (.iload 6, 2) := by decide +kernel
theorem dL_drafts_99 : decode cL_drafts 99 = .ok (.invokestatic 198, 3) := by decide +kernel
theorem dL_drafts_102 : decode cL_drafts 102 = .ok (.aload 4, 2) := by decide +kernel
theorem dL_drafts_104 : decode cL_drafts 104 = .ok (.iconst 0, 1) := by decide +kernel
theorem dL_drafts_105 : decode cL_drafts 105 = .ok (.iaload, 1) := by decide +kernel
theorem dL_drafts_106 : decode cL_drafts 106 = .ok (.iconst 1, 1) := by decide +kernel
theorem dL_drafts_107 : decode cL_drafts 107 = .ok (.isub, 1) := by decide +kernel
theorem dL_drafts_108 : decode cL_drafts 108 = .ok (.if_icmp .ne 7, 3) := by decide +kernel
theorem dL_drafts_111 : decode cL_drafts 111 = .ok (.iconst 1, 1) := by decide +kernel
theorem dL_drafts_112 : decode cL_drafts 112 = .ok (.goto 4, 3) := by decide +kernel
theorem dL_drafts_115 : decode cL_drafts 115 = .ok (.iconst 0, 1) := by decide +kernel
theorem dL_drafts_116 : decode cL_drafts 116 = .ok (.ireturn, 1) := by decide +kernel
theorem dL_drafts_117 : decode cL_drafts 117 = .ok (.iload 5, 2) := by decide +kernel
theorem dL_drafts_119 : decode cL_drafts 119 = .ok (.aload 4, 2) := by decide +kernel
theorem dL_drafts_121 : decode cL_drafts 121 = .ok (.iconst 0, 1) := by decide +kernel
theorem dL_drafts_122 : decode cL_drafts 122 = .ok (.iaload, 1) := by decide +kernel
theorem dL_drafts_123 : decode cL_drafts 123 = .ok (.if_icmp .ne 67, 3) := by decide +kernel
theorem dL_drafts_126 : decode cL_drafts 126 = .ok (.aload_n 0, 1) := by decide +kernel
theorem dL_drafts_127 : decode cL_drafts 127 = .ok (.iload 5, 2) := by decide +kernel
theorem dL_drafts_129 : decode cL_drafts 129 = .ok (.iconst 0, 1) := by decide +kernel
theorem dL_drafts_130 : decode cL_drafts 130 = .ok (.iconst 0, 1) := by decide +kernel
theorem dL_drafts_131 : decode cL_drafts 131 = .ok (.iconst 0, 1) := by decide +kernel
theorem dL_drafts_132 : decode cL_drafts 132 = .ok (.invokestatic 200, 3) := by decide +kernel
theorem dL_drafts_135 : decode cL_drafts 135 = .ok (.sipush (-7100), 3) := by decide +kernel
theorem dL_drafts_138 : decode cL_drafts 138 = .ok (.if_icmp .ne 50, 3) := by decide +kernel
theorem dL_drafts_141 : decode cL_drafts 141 = .ok (.aload_n 0, 1) := by decide +kernel
theorem dL_drafts_142 : decode cL_drafts 142 = .ok (.iload 5, 2) := by decide +kernel
theorem dL_drafts_144 : decode cL_drafts 144 = .ok (.iconst 0, 1) := by decide +kernel
theorem dL_drafts_145 : decode cL_drafts 145 = .ok (.bipush 9, 2) := by decide +kernel
theorem dL_drafts_147 : decode cL_drafts 147 = .ok (.iconst 0, 1) := by decide +kernel
theorem dL_drafts_148 : decode cL_drafts 148 = .ok (.invokestatic 202, 3) := by decide +kernel
theorem dL_drafts_151 : decode cL_drafts 151 = .ok (.sipush (-7100), 3) := by decide +kernel
theorem dL_drafts_154 : decode cL_drafts 154 = .ok (.if_icmp .ne 34, 3) := by decide +kernel
theorem dL_drafts_157 : decode cL_drafts 157 = .ok (.aload_n 0, 1) := by decide +kernel
theorem dL_drafts_158 : decode cL_drafts 158 = .ok (.iload 5, 2) := by decide +kernel
theorem dL_drafts_160 : decode cL_drafts 160 = .ok (.iconst 0, 1) := by decide +kernel
theorem dL_drafts_161 : decode cL_drafts 161 = .ok (.invokestatic 204, 3) := by decide +kernel
theorem dL_drafts_164 : decode cL_drafts 164 = .ok (.sipush (-7100), 3) := by decide +kernel
theorem dL_drafts_167 : decode cL_drafts 167 = .ok (.if_icmp .ne 21, 3) := by decide +kernel
theorem dL_drafts_170 : decode cL_drafts 170 = .ok (.aload_n 0, 1) := by decide +kernel
theorem dL_drafts_171 : decode cL_drafts 171 = .ok (.iconst (-1), 1) := by decide +kernel
theorem dL_drafts_172 : decode cL_drafts 172 = .ok (.iconst 0, 1) := by decide +kernel
theorem dL_drafts_173 : decode cL_drafts 173 = .ok (.iconst 0, 1) := by decide +kernel
theorem dL_drafts_174 : decode cL_drafts 174 = .ok (.iconst 0, 1) := by decide +kernel
theorem dL_drafts_175 : decode cL_drafts 175 = .ok (.invokestatic 202, 3) := by decide +kernel
theorem dL_drafts_178 : decode cL_drafts 178 = .ok (.sipush (-7100), 3) := by decide +kernel
theorem dL_drafts_181 : decode cL_drafts 181 = .ok (.if_icmp .ne 7, 3) := by decide +kernel
theorem dL_drafts_184 : decode cL_drafts 184 = .ok (.iconst 1, 1) := by decide +kernel
theorem dL_drafts_185 : decode cL_drafts 185 = .ok (.goto 4, 3) := by decide +kernel
theorem dL_drafts_188 : decode cL_drafts 188 = .ok (.iconst 0, 1) := by decide +kernel
theorem dL_drafts_189 : decode cL_drafts 189 = .ok (.ireturn, 1) := by decide +kernel
theorem dL_drafts_190 : decode cL_drafts 190 = .ok (.iload_n 2, 1) := by decide +kernel
theorem dL_drafts_191 : decode cL_drafts 191 = .ok (.iconst 5, 1) := by decide +kernel
theorem dL_drafts_192 : decode cL_drafts 192 = .ok (.ishr, 1) := by decide +kernel
theorem dL_drafts_193 : decode cL_drafts 193 = .ok (.aload 4, 2) := by decide +kernel
theorem dL_drafts_195 : decode cL_drafts 195 = .ok (.bipush 6, 2) := by decide +kernel
theorem dL_drafts_197 : decode cL_drafts 197 = .ok (.iload 5, 2) := by decide +kernel
theorem dL_drafts_199 : decode cL_drafts 199 = .ok (.iadd, 1) := by decide +kernel
theorem dL_drafts_200 : decode cL_drafts 200 = .ok (.iaload, 1) := by decide +kernel
theorem dL_drafts_201 : decode cL_drafts 201 = .ok (.invokestatic 125, 3) := by decide +kernel
theorem dL_drafts_204 : decode cL_drafts 204 = .ok (.invokestatic 130, 3) := by decide +kernel
theorem dL_drafts_207 : decode cL_drafts 207 = .ok (.istore 6, 2) := by decide +kernel
theorem dL_drafts_209 : decode cL_drafts 209 = .ok (.iload_n 1, 1) := by decide +kernel
theorem dL_drafts_210 : decode cL_drafts 210 = .ok (.iconst 5, 1) := by decide +kernel
theorem dL_drafts_211 : decode cL_drafts 211 = .ok (.if_icmp .ge 248, 3) := by decide +kernel
theorem dL_drafts_214 : decode cL_drafts 214 = .ok (.iload_n 3, 1) := by decide +kernel
theorem dL_drafts_215 : decode cL_drafts 215 = .ok (.aload 4, 2) := by decide +kernel
theorem dL_drafts_217 : decode cL_drafts 217 = .ok (.iconst 0, 1) := by decide +kernel
theorem dL_drafts_218 : decode cL_drafts 218 = .ok (.iaload, 1) := by decide +kernel
theorem dL_drafts_219 : decode cL_drafts 219 = .ok (.invokestatic 130, 3) := by decide +kernel
theorem dL_drafts_222 : decode cL_drafts 222 = .ok (.istore 7, 2) := by decide +kernel
theorem dL_drafts_224 : decode cL_drafts 224 = .ok (.iload_n 3, 1) := by decide +kernel
theorem dL_drafts_225 : decode cL_drafts 225 = .ok (.iconst 4, 1) := by decide +kernel
theorem dL_drafts_226 : decode cL_drafts 226 = .ok (.ishr, 1) := by decide +kernel
theorem dL_drafts_227 : decode cL_drafts 227 = .ok (.aload 4, 2) := by decide +kernel
theorem dL_drafts_229 : decode cL_drafts 229 = .ok (.bipush 6, 2) := by decide +kernel
theorem dL_drafts_231 : decode cL_drafts 231 = .ok (.iload 7, 2) := by decide +kernel
theorem dL_drafts_233 : decode cL_drafts 233 = .ok (.iadd, 1) := by decide +kernel
theorem dL_drafts_234 : decode cL_drafts 234 = .ok (.iaload, 1) := by decide +kernel
theorem dL_drafts_235 : decode cL_drafts 235 = .ok (.invokestatic 125, 3) := by decide +kernel
theorem dL_drafts_238 : decode cL_drafts 238 = .ok (.invokestatic 130, 3) := by decide +kernel
theorem dL_drafts_241 : decode cL_drafts 241 = .ok (.istore 8, 2) := by decide +kernel
theorem dL_drafts_243 : decode cL_drafts 243 = .ok (.aload_n 0, 1) := by decide +kernel
theorem dL_drafts_244 : decode cL_drafts 244 = .ok (.iload 5, 2) := by decide +kernel
theorem dL_drafts_246 : decode cL_drafts 246 = .ok (.aload 4, 2) := by decide +kernel
theorem dL_drafts_248 : decode cL_drafts 248 = .ok (.bipush 6, 2) := by decide +kernel
theorem dL_drafts_250 : decode cL_drafts 250 = .ok (.iload 5, 2) := by decide +kernel
theorem dL_drafts_252 : decode cL_drafts 252 = .ok (.iadd, 1) := by decide +kernel
theorem dL_drafts_253 : decode cL_drafts 253 = .ok (.iaload, 1) := by decide +kernel
theorem dL_drafts_254 : decode cL_drafts 254 = .ok (.invokestatic 125, 3) := by decide +kernel
theorem dL_drafts_257 : decode cL_drafts 257 = .ok (.iload 7, 2) := by decide +kernel
theorem dL_drafts_259 : decode cL_drafts 259 = .ok (.iload 8, 2) := by decide +kernel
theorem dL_drafts_261 : decode cL_drafts 261 = .ok (.invokestatic 200, 3) := by decide +kernel
theorem dL_drafts_264 : decode cL_drafts 264 = .ok (.sipush (-7100), 3) := by decide +kernel
theorem dL_drafts_267 : decode cL_drafts 267 = .ok (.if_icmp .ne 38, 3) := by decide +kernel
theorem dL_drafts_270 : decode cL_drafts 270 = .ok (.aload_n 0, 1) := by decide +kernel
theorem dL_drafts_271 : decode cL_drafts 271 = .ok (.iload 5, 2) := by decide +kernel
theorem dL_drafts_273 : decode cL_drafts 273 = .ok (.iload 6, 2) := by decide +kernel
theorem dL_drafts_275 : decode cL_drafts 275 = .ok (.iload 7, 2) := by decide +kernel
theorem dL_drafts_277 : decode cL_drafts 277 = .ok (.iconst (-1), 1) := by decide +kernel
theorem dL_drafts_278 : decode cL_drafts 278 = .ok (.invokestatic 200, 3) := by decide +kernel
theorem dL_drafts_281 : decode cL_drafts 281 = .ok (.sipush (-7100), 3) := by decide +kernel
theorem dL_drafts_284 : decode cL_drafts 284 = .ok (.if_icmp .ne 21, 3) := by decide +kernel
