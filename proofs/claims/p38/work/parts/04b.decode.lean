theorem dX4_hasColumn_9 : decode cX4_hasColumn 9 = .ok (.if_icmp .ge 27, 3) := by decide +kernel
theorem dX4_hasColumn_12 : decode cX4_hasColumn 12 = .ok (.iload_n 2, 1) := by decide +kernel
theorem dX4_hasColumn_13 : decode cX4_hasColumn 13 = .ok (.ifCond .lt 23, 3) := by decide +kernel
theorem dX4_hasColumn_16 : decode cX4_hasColumn 16 = .ok (.iload_n 2, 1) := by decide +kernel
theorem dX4_hasColumn_17 : decode cX4_hasColumn 17 = .ok (.aload_n 0, 1) := by decide +kernel
theorem dX4_hasColumn_18 : decode cX4_hasColumn 18 = .ok (.getfield 9, 3) := by decide +kernel
theorem dX4_hasColumn_21 : decode cX4_hasColumn 21 = .ok (.iload_n 1, 1) := by decide +kernel
theorem dX4_hasColumn_22 : decode cX4_hasColumn 22 = .ok (.iaload, 1) := by decide +kernel
theorem dX4_hasColumn_23 : decode cX4_hasColumn 23 = .ok (.invokestatic 46, 3) := by decide +kernel
theorem dX4_hasColumn_26 : decode cX4_hasColumn 26 = .ok (.invokestatic 50, 3) := by decide +kernel
theorem dX4_hasColumn_29 : decode cX4_hasColumn 29 = .ok (.if_icmp .ge 7, 3) := by decide +kernel
theorem dX4_hasColumn_32 : decode cX4_hasColumn 32 = .ok (.iconst 1, 1) := by decide +kernel
theorem dX4_hasColumn_33 : decode cX4_hasColumn 33 = .ok (.goto 4, 3) := by decide +kernel
theorem dX4_hasColumn_36 : decode cX4_hasColumn 36 = .ok (.iconst 0, 1) := by decide +kernel
theorem dX4_hasColumn_37 : decode cX4_hasColumn 37 = .ok (.ireturn, 1) := by decide +kernel
theorem dX4_isQuery_0 : decode cX4_isQuery 0 = .ok (.aload_n 0, 1) := by decide +kernel
theorem dX4_isQuery_1 : decode cX4_isQuery 1 = .ok (.getfield 43, 3) := by decide +kernel
theorem dX4_isQuery_4 : decode cX4_isQuery 4 = .ok (.ifCond .le 14, 3) := by decide +kernel
theorem dX4_isQuery_7 : decode cX4_isQuery 7 = .ok (.aload_n 0, 1) := by decide +kernel
theorem dX4_isQuery_8 : decode cX4_isQuery 8 = .ok (.getfield 53, 3) := by decide +kernel
theorem dX4_isQuery_11 : decode cX4_isQuery 11 = .ok (.ifCond .le 7, 3) := by decide +kernel
theorem dX4_isQuery_14 : decode cX4_isQuery 14 = .ok (.iconst 1, 1) := by decide +kernel
theorem dX4_isQuery_15 : decode cX4_isQuery 15 = .ok (.goto 4, 3) := by decide +kernel
theorem dX4_isQuery_18 : decode cX4_isQuery 18 = .ok (.iconst 0, 1) := by decide +kernel
theorem dX4_isQuery_19 : decode cX4_isQuery 19 = .ok (.ireturn, 1) := by decide +kernel
theorem dX4_addSeat_0 : decode cX4_addSeat 0 = .ok (.aload_n 0, 1) := by decide +kernel
theorem dX4_addSeat_1 : decode cX4_addSeat 1 = .ok (.getfield 9, 3) := by decide +kernel
theorem dX4_addSeat_4 : decode cX4_addSeat 4 = .ok (.aload_n 0, 1) := by decide +kernel
theorem dX4_addSeat_5 : decode cX4_addSeat 5 = .ok (.getfield 43, 3) := by decide +kernel
theorem dX4_addSeat_8 : decode cX4_addSeat 8 = .ok (.iload_n 1, 1) := by decide +kernel
theorem dX4_addSeat_9 : decode cX4_addSeat 9 = .ok (.iastore, 1) := by decide +kernel
theorem dX4_addSeat_10 : decode cX4_addSeat 10 = .ok (.aload_n 0, 1) := by decide +kernel
theorem dX4_addSeat_11 : decode cX4_addSeat 11 = .ok (.dup, 1) := by decide +kernel
theorem dX4_addSeat_12 : decode cX4_addSeat 12 = .ok (.getfield 43, 3) := by decide +kernel
theorem dX4_addSeat_15 : decode cX4_addSeat 15 = .ok (.iconst 1, 1) := by decide +kernel
theorem dX4_addSeat_16 : decode cX4_addSeat 16 = .ok (.iadd, 1) := by decide +kernel
theorem dX4_addSeat_17 : decode cX4_addSeat 17 = .ok (.putfield 43, 3) := by decide +kernel
theorem dX4_addSeat_20 : decode cX4_addSeat 20 = .ok (.aload_n 0, 1) := by decide +kernel
theorem dX4_addSeat_21 : decode cX4_addSeat 21 = .ok (.getfield 43, 3) := by decide +kernel
theorem dX4_addSeat_24 : decode cX4_addSeat 24 = .ok (.iconst 1, 1) := by decide +kernel
theorem dX4_addSeat_25 : decode cX4_addSeat 25 = .ok (.isub, 1) := by decide +kernel
theorem dX4_addSeat_26 : decode cX4_addSeat 26 = .ok (.ireturn, 1) := by decide +kernel
theorem dX4_addLink_0 : decode cX4_addLink 0 = .ok (.iconst 2, 1) := by decide +kernel
theorem dX4_addLink_1 : decode cX4_addLink 1 = .ok (.aload_n 0, 1) := by decide +kernel
theorem dX4_addLink_2 : decode cX4_addLink 2 = .ok (.getfield 56, 3) := by decide +kernel
theorem dX4_addLink_5 : decode cX4_addLink 5 = .ok (.imul, 1) := by decide +kernel
theorem dX4_addLink_6 : decode cX4_addLink 6 = .ok (.istore 5, 2) := by decide +kernel
theorem dX4_addLink_8 : decode cX4_addLink 8 = .ok (.aload_n 0, 1) := by decide +kernel
theorem dX4_addLink_9 : decode cX4_addLink 9 = .ok (.getfield 15, 3) := by decide +kernel
theorem dX4_addLink_12 : decode cX4_addLink 12 = .ok (.iload 5, 2) := by decide +kernel
theorem dX4_addLink_14 : decode cX4_addLink 14 = .ok (.iload_n 1, 1) := by decide +kernel
theorem dX4_addLink_15 : decode cX4_addLink 15 = .ok (.iastore, 1) := by decide +kernel
theorem dX4_addLink_16 : decode cX4_addLink 16 = .ok (.aload_n 0, 1) := by decide +kernel
theorem dX4_addLink_17 : decode cX4_addLink 17 = .ok (.getfield 18, 3) := by decide +kernel
theorem dX4_addLink_20 : decode cX4_addLink 20 = .ok (.iload 5, 2) := by decide +kernel
theorem dX4_addLink_22 : decode cX4_addLink 22 = .ok (.iload_n 2, 1) := by decide +kernel
theorem dX4_addLink_23 : decode cX4_addLink 23 = .ok (.iastore, 1) := by decide +kernel
theorem dX4_addLink_24 : decode cX4_addLink 24 = .ok (.aload_n 0, 1) := by decide +kernel
theorem dX4_addLink_25 : decode cX4_addLink 25 = .ok (.getfield 15, 3) := by decide +kernel
theorem dX4_addLink_28 : decode cX4_addLink 28 = .ok (.iload 5, 2) := by decide +kernel
theorem dX4_addLink_30 : decode cX4_addLink 30 = .ok (.iconst 1, 1) := by decide +kernel
theorem dX4_addLink_31 : decode cX4_addLink 31 = .ok (.iadd, 1) := by decide +kernel
theorem dX4_addLink_32 : decode cX4_addLink 32 = .ok (.iload_n 3, 1) := by decide +kernel
theorem dX4_addLink_33 : decode cX4_addLink 33 = .ok (.iastore, 1) := by decide +kernel
theorem dX4_addLink_34 : decode cX4_addLink 34 = .ok (.aload_n 0, 1) := by decide +kernel
theorem dX4_addLink_35 : decode cX4_addLink 35 = .ok (.getfield 18, 3) := by decide +kernel
theorem dX4_addLink_38 : decode cX4_addLink 38 = .ok (.iload 5, 2) := by decide +kernel
theorem dX4_addLink_40 : decode cX4_addLink 40 = .ok (.iconst 1, 1) := by decide +kernel
theorem dX4_addLink_41 : decode cX4_addLink 41 = .ok (.iadd, 1) := by decide +kernel
theorem dX4_addLink_42 : decode cX4_addLink 42 = .ok (.iload 4, 2) := by decide +kernel
theorem dX4_addLink_44 : decode cX4_addLink 44 = .ok (.iastore, 1) := by decide +kernel
theorem dX4_addLink_45 : decode cX4_addLink 45 = .ok (.aload_n 0, 1) := by decide +kernel
theorem dX4_addLink_46 : decode cX4_addLink 46 = .ok (.dup, 1) := by decide +kernel
theorem dX4_addLink_47 : decode cX4_addLink 47 = .ok (.getfield 56, 3) := by decide +kernel
theorem dX4_addLink_50 : decode cX4_addLink 50 = .ok (.iconst 1, 1) := by decide +kernel
theorem dX4_addLink_51 : decode cX4_addLink 51 = .ok (.iadd, 1) := by decide +kernel
theorem dX4_addLink_52 : decode cX4_addLink 52 = .ok (.putfield 56, 3) := by decide +kernel
theorem dX4_addLink_55 : decode cX4_addLink 55 = .ok (.aload_n 0, 1) := by decide +kernel
theorem dX4_addLink_56 : decode cX4_addLink 56 = .ok (.getfield 56, 3) := by decide +kernel
theorem dX4_addLink_59 : decode cX4_addLink 59 = .ok (.ireturn, 1) := by decide +kernel
theorem dX4_addCondition_0 : decode cX4_addCondition 0 = .ok (.aload_n 0, 1) := by decide +kernel
theorem dX4_addCondition_1 : decode cX4_addCondition 1 = .ok (.getfield 21, 3) := by decide +kernel
theorem dX4_addCondition_4 : decode cX4_addCondition 4 = .ok (.aload_n 0, 1) := by decide +kernel
theorem dX4_addCondition_5 : decode cX4_addCondition 5 = .ok (.getfield 59, 3) := by decide +kernel
theorem dX4_addCondition_8 : decode cX4_addCondition 8 = .ok (.iload_n 1, 1) := by decide +kernel
theorem dX4_addCondition_9 : decode cX4_addCondition 9 = .ok (.iastore, 1) := by decide +kernel
theorem dX4_addCondition_10 : decode cX4_addCondition 10 = .ok (.aload_n 0, 1) := by decide +kernel
theorem dX4_addCondition_11 : decode cX4_addCondition 11 = .ok (.getfield 24, 3) := by decide +kernel
theorem dX4_addCondition_14 : decode cX4_addCondition 14 = .ok (.aload_n 0, 1) := by decide +kernel
theorem dX4_addCondition_15 : decode cX4_addCondition 15 = .ok (.getfield 59, 3) := by decide +kernel
theorem dX4_addCondition_18 : decode cX4_addCondition 18 = .ok (.iload_n 2, 1) := by decide +kernel
theorem dX4_addCondition_19 : decode cX4_addCondition 19 = .ok (.iastore, 1) := by decide +kernel
theorem dX4_addCondition_20 : decode cX4_addCondition 20 = .ok (.aload_n 0, 1) := by decide +kernel
theorem dX4_addCondition_21 : decode cX4_addCondition 21 = .ok (.getfield 27, 3) := by decide +kernel
theorem dX4_addCondition_24 : decode cX4_addCondition 24 = .ok (.aload_n 0, 1) := by decide +kernel
theorem dX4_addCondition_25 : decode cX4_addCondition 25 = .ok (.getfield 59, 3) := by decide +kernel
theorem dX4_addCondition_28 : decode cX4_addCondition 28 = .ok (.iload_n 3, 1) := by decide +kernel
theorem dX4_addCondition_29 : decode cX4_addCondition 29 = .ok (.iastore, 1) := by decide +kernel
theorem dX4_addCondition_30 : decode cX4_addCondition 30 = .ok (.aload_n 0, 1) := by decide +kernel
theorem dX4_addCondition_31 : decode cX4_addCondition 31 = .ok (.getfield 30, 3) := by decide +kernel
theorem dX4_addCondition_34 : decode cX4_addCondition 34 = .ok (.aload_n 0, 1) := by decide +kernel
theorem dX4_addCondition_35 : decode cX4_addCondition 35 = .ok (.getfield 59, 3) := by decide +kernel
theorem dX4_addCondition_38 : decode cX4_addCondition 38 = .ok (.iload 4, 2) := by decide +kernel
theorem dX4_addCondition_40 : decode cX4_addCondition 40 = .ok (.iastore, 1) := by decide +kernel
theorem dX4_addCondition_41 : decode cX4_addCondition 41 = .ok (.aload_n 0, 1) := by decide +kernel
theorem dX4_addCondition_42 : decode cX4_addCondition 42 = .ok (.dup, 1) := by decide +kernel
theorem dX4_addCondition_43 : decode cX4_addCondition 43 = .ok (.getfield 59, 3) := by decide +kernel
theorem dX4_addCondition_46 : decode cX4_addCondition 46 = .ok (.iconst 1, 1) := by decide +kernel
theorem dX4_addCondition_47 : decode cX4_addCondition 47 = .ok (.iadd, 1) := by decide +kernel
theorem dX4_addCondition_48 : decode cX4_addCondition 48 = .ok (.putfield 59, 3) := by decide +kernel
theorem dX4_addCondition_51 : decode cX4_addCondition 51 = .ok (.aload_n 0, 1) := by decide +kernel
theorem dX4_addCondition_52 : decode cX4_addCondition 52 = .ok (.getfield 59, 3) := by decide +kernel
theorem dX4_addCondition_55 : decode cX4_addCondition 55 = .ok (.ireturn, 1) := by decide +kernel
theorem dX4_addOutput_0 : decode cX4_addOutput 0 = .ok (.aload_n 0, 1) := by decide +kernel
theorem dX4_addOutput_1 : decode cX4_addOutput 1 = .ok (.getfield 33, 3) := by decide +kernel
theorem dX4_addOutput_4 : decode cX4_addOutput 4 = .ok (.aload_n 0, 1) := by decide +kernel
theorem dX4_addOutput_5 : decode cX4_addOutput 5 = .ok (.getfield 53, 3) := by decide +kernel
theorem dX4_addOutput_8 : decode cX4_addOutput 8 = .ok (.iload_n 1, 1) := by decide +kernel
theorem dX4_addOutput_9 : decode cX4_addOutput 9 = .ok (.iastore, 1) := by decide +kernel
theorem dX4_addOutput_10 : decode cX4_addOutput 10 = .ok (.aload_n 0, 1) := by decide +kernel
theorem dX4_addOutput_11 : decode cX4_addOutput 11 = .ok (.getfield 36, 3) := by decide +kernel
theorem dX4_addOutput_14 : decode cX4_addOutput 14 = .ok (.aload_n 0, 1) := by decide +kernel
theorem dX4_addOutput_15 : decode cX4_addOutput 15 = .ok (.getfield 53, 3) := by decide +kernel
theorem dX4_addOutput_18 : decode cX4_addOutput 18 = .ok (.iload_n 2, 1) := by decide +kernel
theorem dX4_addOutput_19 : decode cX4_addOutput 19 = .ok (.iastore, 1) := by decide +kernel
theorem dX4_addOutput_20 : decode cX4_addOutput 20 = .ok (.aload_n 0, 1) := by decide +kernel
theorem dX4_addOutput_21 : decode cX4_addOutput 21 = .ok (.dup, 1) := by decide +kernel
theorem dX4_addOutput_22 : decode cX4_addOutput 22 = .ok (.getfield 53, 3) := by decide +kernel
theorem dX4_addOutput_25 : decode cX4_addOutput 25 = .ok (.iconst 1, 1) := by decide +kernel
theorem dX4_addOutput_26 : decode cX4_addOutput 26 = .ok (.iadd, 1) := by decide +kernel
theorem dX4_addOutput_27 : decode cX4_addOutput 27 = .ok (.putfield 53, 3) := by decide +kernel
theorem dX4_addOutput_30 : decode cX4_addOutput 30 = .ok (.aload_n 0, 1) := by decide +kernel
theorem dX4_addOutput_31 : decode cX4_addOutput 31 = .ok (.getfield 53, 3) := by decide +kernel
theorem dX4_addOutput_34 : decode cX4_addOutput 34 = .ok (.ireturn, 1) := by decide +kernel
theorem dX4_makeEmpty_0 : decode cX4_makeEmpty 0 = .ok (.aload_n 0, 1) := by decide +kernel
theorem dX4_makeEmpty_1 : decode cX4_makeEmpty 1 = .ok (.iconst 0, 1) := by decide +kernel
theorem dX4_makeEmpty_2 : decode cX4_makeEmpty 2 = .ok (.putfield 43, 3) := by decide +kernel
theorem dX4_makeEmpty_5 : decode cX4_makeEmpty 5 = .ok (.aload_n 0, 1) := by decide +kernel
theorem dX4_makeEmpty_6 : decode cX4_makeEmpty 6 = .ok (.iconst 0, 1) := by decide +kernel
theorem dX4_makeEmpty_7 : decode cX4_makeEmpty 7 = .ok (.putfield 56, 3) := by decide +kernel
theorem dX4_makeEmpty_10 : decode cX4_makeEmpty 10 = .ok (.aload_n 0, 1) := by decide +kernel
theorem dX4_makeEmpty_11 : decode cX4_makeEmpty 11 = .ok (.iconst 0, 1) := by decide +kernel
theorem dX4_makeEmpty_12 : decode cX4_makeEmpty 12 = .ok (.putfield 59, 3) := by decide +kernel
theorem dX4_makeEmpty_15 : decode cX4_makeEmpty 15 = .ok (.aload_n 0, 1) := by decide +kernel
theorem dX4_makeEmpty_16 : decode cX4_makeEmpty 16 = .ok (.iconst 0, 1) := by decide +kernel
theorem dX4_makeEmpty_17 : decode cX4_makeEmpty 17 = .ok (.putfield 53, 3) := by decide +kernel
theorem dX4_makeEmpty_20 : decode cX4_makeEmpty 20 = .ok (.aload_n 0, 1) := by decide +kernel
theorem dX4_makeEmpty_21 : decode cX4_makeEmpty 21 = .ok (.bipush 40, 2) := by decide +kernel
theorem dX4_makeEmpty_23 : decode cX4_makeEmpty 23 = .ok (.putfield 39, 3) := by decide +kernel
theorem dX4_makeEmpty_26 : decode cX4_makeEmpty 26 = .ok (.aload_n 0, 1) := by decide +kernel
theorem dX4_makeEmpty_27 : decode cX4_makeEmpty 27 = .ok (.iconst 0, 1) := by decide +kernel
theorem dX4_makeEmpty_28 : decode cX4_makeEmpty 28 = .ok (.putfield 62, 3) := by decide +kernel
theorem dX4_makeEmpty_31 : decode cX4_makeEmpty 31 = .ok (.return_, 1) := by decide +kernel
theorem dX4_isSent_0 : decode cX4_isSent 0 = .ok (.aload_n 0, 1) := by decide +kernel
theorem dX4_isSent_1 : decode cX4_isSent 1 = .ok (.getfield 21, 3) := by decide +kernel
theorem dX4_isSent_4 : decode cX4_isSent 4 = .ok (.iload_n 1, 1) := by decide +kernel
theorem dX4_isSent_5 : decode cX4_isSent 5 = .ok (.iaload, 1) := by decide +kernel
theorem dX4_isSent_6 : decode cX4_isSent 6 = .ok (.iload_n 2, 1) := by decide +kernel
theorem dX4_isSent_7 : decode cX4_isSent 7 = .ok (.if_icmp .ne 34, 3) := by decide +kernel
theorem dX4_isSent_10 : decode cX4_isSent 10 = .ok (.aload_n 0, 1) := by decide +kernel
theorem dX4_isSent_11 : decode cX4_isSent 11 = .ok (.getfield 9, 3) := by decide +kernel
theorem dX4_isSent_14 : decode cX4_isSent 14 = .ok (.iload_n 2, 1) := by decide +kernel
theorem dX4_isSent_15 : decode cX4_isSent 15 = .ok (.iaload, 1) := by decide +kernel
theorem dX4_isSent_16 : decode cX4_isSent 16 = .ok (.invokestatic 46, 3) := by decide +kernel
theorem dX4_isSent_19 : decode cX4_isSent 19 = .ok (.aload_n 0, 1) := by decide +kernel
theorem dX4_isSent_20 : decode cX4_isSent 20 = .ok (.getfield 24, 3) := by decide +kernel
theorem dX4_isSent_23 : decode cX4_isSent 23 = .ok (.iload_n 1, 1) := by decide +kernel
theorem dX4_isSent_24 : decode cX4_isSent 24 = .ok (.iaload, 1) := by decide +kernel
theorem dX4_isSent_25 : decode cX4_isSent 25 = .ok (.aload_n 0, 1) := by decide +kernel
theorem dX4_isSent_26 : decode cX4_isSent 26 = .ok (.getfield 27, 3) := by decide +kernel
theorem dX4_isSent_29 : decode cX4_isSent 29 = .ok (.iload_n 1, 1) := by decide +kernel
theorem dX4_isSent_30 : decode cX4_isSent 30 = .ok (.iaload, 1) := by decide +kernel
theorem dX4_isSent_31 : decode cX4_isSent 31 = .ok (.invokestatic 66, 3) := by decide +kernel
theorem dX4_isSent_34 : decode cX4_isSent 34 = .ok (.ifCond .eq 7, 3) := by decide +kernel
theorem dX4_isSent_37 : decode cX4_isSent 37 = .ok (.iconst 1, 1) := by decide +kernel
theorem dX4_isSent_38 : decode cX4_isSent 38 = .ok (.goto 4, 3) := by decide +kernel
theorem dX4_isSent_41 : decode cX4_isSent 41 = .ok (.iconst 0, 1) := by decide +kernel
theorem dX4_isSent_42 : decode cX4_isSent 42 = .ok (.ireturn, 1) := by decide +kernel
theorem dX4_sentOf_0 : decode cX4_sentOf 0 = .ok (.iconst 0, 1) := by decide +kernel
theorem dX4_sentOf_1 : decode cX4_sentOf 1 = .ok (.istore_n 2, 1) := by decide +kernel
theorem dX4_sentOf_2 : decode cX4_sentOf 2 = .ok (.iconst 0, 1) := by decide +kernel
theorem dX4_sentOf_3 : decode cX4_sentOf 3 = .ok (.istore_n 3, 1) := by decide +kernel
theorem dX4_sentOf_4 : decode cX4_sentOf 4 = .ok (.iload_n 3, 1) := by decide +kernel
theorem dX4_sentOf_5 : decode cX4_sentOf 5 = .ok (.aload_n 0, 1) := by decide +kernel
theorem dX4_sentOf_6 : decode cX4_sentOf 6 = .ok (.getfield 59, 3) := by decide +kernel
theorem dX4_sentOf_9 : decode cX4_sentOf 9 = .ok (.if_icmp .ge 21, 3) := by decide +kernel
theorem dX4_sentOf_12 : decode cX4_sentOf 12 = .ok (.aload_n 0, 1) := by decide +kernel
theorem dX4_sentOf_13 : decode cX4_sentOf 13 = .ok (.iload_n 3, 1) := by decide +kernel
theorem dX4_sentOf_14 : decode cX4_sentOf 14 = .ok (.iload_n 1, 1) := by decide +kernel
theorem dX4_sentOf_15 : decode cX4_sentOf 15 = .ok (.invokevirtual 70, 3) := by decide +kernel
theorem dX4_sentOf_18 : decode cX4_sentOf 18 = .ok (.ifCond .eq 6, 3) := by decide +kernel
theorem dX4_sentOf_21 : decode cX4_sentOf 21 = .ok (.iinc 2 1, 3) := by decide +kernel
theorem dX4_sentOf_24 : decode cX4_sentOf 24 = .ok (.iinc 3 1, 3) := by decide +kernel
theorem dX4_sentOf_27 : decode cX4_sentOf 27 = .ok (.goto (-23), 3) := by decide +kernel
theorem dX4_sentOf_30 : decode cX4_sentOf 30 = .ok (.iload_n 2, 1) := by decide +kernel
theorem dX4_sentOf_31 : decode cX4_sentOf 31 = .ok (.ireturn, 1) := by decide +kernel
theorem dX4_sentHold_0 : decode cX4_sentHold 0 = .ok (.iconst 0, 1) := by decide +kernel
theorem dX4_sentHold_1 : decode cX4_sentHold 1 = .ok (.istore 4, 2) := by decide +kernel
theorem dX4_sentHold_3 : decode cX4_sentHold 3 = .ok (.iload 4, 2) := by decide +kernel
theorem dX4_sentHold_5 : decode cX4_sentHold 5 = .ok (.aload_n 0, 1) := by decide +kernel
theorem dX4_sentHold_6 : decode cX4_sentHold 6 = .ok (.getfield 59, 3) := by decide +kernel
theorem dX4_sentHold_9 : decode cX4_sentHold 9 = .ok (.if_icmp .ge 53, 3) := by decide +kernel
theorem dX4_sentHold_12 : decode cX4_sentHold 12 = .ok (.aload_n 0, 1) := by decide +kernel
theorem dX4_sentHold_13 : decode cX4_sentHold 13 = .ok (.iload 4, 2) := by decide +kernel
theorem dX4_sentHold_15 : decode cX4_sentHold 15 = .ok (.iload_n 1, 1) := by decide +kernel
theorem dX4_sentHold_16 : decode cX4_sentHold 16 = .ok (.invokevirtual 70, 3) := by decide +kernel
theorem dX4_sentHold_19 : decode cX4_sentHold 19 = .ok (.ifCond .eq 37, 3) := by decide +kernel
theorem dX4_sentHold_22 : decode cX4_sentHold 22 = .ok (.aload_n 0, 1) := by decide +kernel
theorem dX4_sentHold_23 : decode cX4_sentHold 23 = .ok (.getfield 27, 3) := by decide +kernel
theorem dX4_sentHold_26 : decode cX4_sentHold 26 = .ok (.iload 4, 2) := by decide +kernel
theorem dX4_sentHold_28 : decode cX4_sentHold 28 = .ok (.iaload, 1) := by decide +kernel
theorem dX4_sentHold_29 : decode cX4_sentHold 29 = .ok (.aload_n 0, 1) := by decide +kernel
theorem dX4_sentHold_30 : decode cX4_sentHold 30 = .ok (.getfield 30, 3) := by decide +kernel
theorem dX4_sentHold_33 : decode cX4_sentHold 33 = .ok (.iload 4, 2) := by decide +kernel
theorem dX4_sentHold_35 : decode cX4_sentHold 35 = .ok (.iaload, 1) := by decide +kernel
theorem dX4_sentHold_36 : decode cX4_sentHold 36 = .ok (.aload_n 2, 1) := by decide +kernel
theorem dX4_sentHold_37 : decode cX4_sentHold 37 = .ok (.iload_n 3, 1) := by decide +kernel
theorem dX4_sentHold_38 : decode cX4_sentHold 38 = .ok (.aload_n 0, 1) := by decide +kernel
theorem dX4_sentHold_39 : decode cX4_sentHold 39 = .ok (.getfield 24, 3) := by decide +kernel
theorem dX4_sentHold_42 : decode cX4_sentHold 42 = .ok (.iload 4, 2) := by decide +kernel
theorem dX4_sentHold_44 : decode cX4_sentHold 44 = .ok (.iaload, 1) := by decide +kernel
theorem dX4_sentHold_45 : decode cX4_sentHold 45 = .ok (.invokevirtual 74, 3) := by decide +kernel
theorem dX4_sentHold_48 : decode cX4_sentHold 48 = .ok (.invokestatic 80, 3) := by decide +kernel
theorem dX4_sentHold_51 : decode cX4_sentHold 51 = .ok (.ifCond .ne 5, 3) := by decide +kernel
theorem dX4_sentHold_54 : decode cX4_sentHold 54 = .ok (.iconst 0, 1) := by decide +kernel
theorem dX4_sentHold_55 : decode cX4_sentHold 55 = .ok (.ireturn, 1) := by decide +kernel
theorem dX4_sentHold_56 : decode cX4_sentHold 56 = .ok (.iinc 4 1, 3) := by decide +kernel
theorem dX4_sentHold_59 : decode cX4_sentHold 59 = .ok (.goto (-56), 3) := by decide +kernel
theorem dX4_sentHold_62 : decode cX4_sentHold 62 = .ok (.iconst 1, 1) := by decide +kernel
theorem dX4_sentHold_63 : decode cX4_sentHold 63 = .ok (.ireturn, 1) := by decide +kernel
theorem dX4_allHold_0 : decode cX4_allHold 0 = .ok (.iconst 0, 1) := by decide +kernel
theorem dX4_allHold_1 : decode cX4_allHold 1 = .ok (.istore 4, 2) := by decide +kernel
theorem dX4_allHold_3 : decode cX4_allHold 3 = .ok (.iload 4, 2) := by decide +kernel
theorem dX4_allHold_5 : decode cX4_allHold 5 = .ok (.aload_n 0, 1) := by decide +kernel
theorem dX4_allHold_6 : decode cX4_allHold 6 = .ok (.getfield 59, 3) := by decide +kernel
theorem dX4_allHold_9 : decode cX4_allHold 9 = .ok (.if_icmp .ge 54, 3) := by decide +kernel
theorem dX4_allHold_12 : decode cX4_allHold 12 = .ok (.aload_n 0, 1) := by decide +kernel
theorem dX4_allHold_13 : decode cX4_allHold 13 = .ok (.getfield 21, 3) := by decide +kernel
theorem dX4_allHold_16 : decode cX4_allHold 16 = .ok (.iload 4, 2) := by decide +kernel
theorem dX4_allHold_18 : decode cX4_allHold 18 = .ok (.iaload, 1) := by decide +kernel
theorem dX4_allHold_19 : decode cX4_allHold 19 = .ok (.iload_n 1, 1) := by decide +kernel
theorem dX4_allHold_20 : decode cX4_allHold 20 = .ok (.if_icmp .ne 37, 3) := by decide +kernel
theorem dX4_allHold_23 : decode cX4_allHold 23 = .ok (.aload_n 0, 1) := by decide +kernel
theorem dX4_allHold_24 : decode cX4_allHold 24 = .ok (.getfield 27, 3) := by decide +kernel
theorem dX4_allHold_27 : decode cX4_allHold 27 = .ok (.iload 4, 2) := by decide +kernel
theorem dX4_allHold_29 : decode cX4_allHold 29 = .ok (.iaload, 1) := by decide +kernel
theorem dX4_allHold_30 : decode cX4_allHold 30 = .ok (.aload_n 0, 1) := by decide +kernel
theorem dX4_allHold_31 : decode cX4_allHold 31 = .ok (.getfield 30, 3) := by decide +kernel
theorem dX4_allHold_34 : decode cX4_allHold 34 = .ok (.iload 4, 2) := by decide +kernel
theorem dX4_allHold_36 : decode cX4_allHold 36 = .ok (.iaload, 1) := by decide +kernel
theorem dX4_allHold_37 : decode cX4_allHold 37 = .ok (.aload_n 2, 1) := by decide +kernel
theorem dX4_allHold_38 : decode cX4_allHold 38 = .ok (.iload_n 3, 1) := by decide +kernel
theorem dX4_allHold_39 : decode cX4_allHold 39 = .ok (.aload_n 0, 1) := by decide +kernel
theorem dX4_allHold_40 : decode cX4_allHold 40 = .ok (.getfield 24, 3) := by decide +kernel
theorem dX4_allHold_43 : decode cX4_allHold 43 = .ok (.iload 4, 2) := by decide +kernel
theorem dX4_allHold_45 : decode cX4_allHold 45 = .ok (.iaload, 1) := by decide +kernel
theorem dX4_allHold_46 : decode cX4_allHold 46 = .ok (.invokevirtual 74, 3) := by decide +kernel
theorem dX4_allHold_49 : decode cX4_allHold 49 = .ok (.invokestatic 80, 3) := by decide +kernel
theorem dX4_allHold_52 : decode cX4_allHold 52 = .ok (.ifCond .ne 5, 3) := by decide +kernel
theorem dX4_allHold_55 : decode cX4_allHold 55 = .ok (.iconst 0, 1) := by decide +kernel
theorem dX4_allHold_56 : decode cX4_allHold 56 = .ok (.ireturn, 1) := by decide +kernel
theorem dX4_allHold_57 : decode cX4_allHold 57 = .ok (.iinc 4 1, 3) := by decide +kernel
theorem dX4_allHold_60 : decode cX4_allHold 60 = .ok (.goto (-57), 3) := by decide +kernel
theorem dX4_allHold_63 : decode cX4_allHold 63 = .ok (.iconst 1, 1) := by decide +kernel
theorem dX4_allHold_64 : decode cX4_allHold 64 = .ok (.ireturn, 1) := by decide +kernel
theorem dX5_init_0 : decode cX5_init 0 = .ok (.aload_n 0, 1) := by decide +kernel
theorem dX5_init_1 : decode cX5_init 1 = .ok (.invokespecial 3, 3) := by decide +kernel
theorem dX5_init_4 : decode cX5_init 4 = .ok (.aload_n 0, 1) := by decide +kernel
theorem dX5_init_5 : decode cX5_init 5 = .ok (.new 9, 3) := by decide +kernel
theorem dX5_init_8 : decode cX5_init 8 = .ok (.dup, 1) := by decide +kernel
theorem dX5_init_9 : decode cX5_init 9 = .ok (.invokespecial 11, 3) := by decide +kernel
theorem dX5_init_12 : decode cX5_init 12 = .ok (.putfield 12, 3) := by decide +kernel
theorem dX5_init_15 : decode cX5_init 15 = .ok (.aload_n 0, 1) := by decide +kernel
theorem dX5_init_16 : decode cX5_init 16 = .ok (.iconst 4, 1) := by decide +kernel
theorem dX5_init_17 : decode cX5_init 17 = .ok (.newarray .int, 2) := by decide +kernel
theorem dX5_init_19 : decode cX5_init 19 = .ok (.putfield 18, 3) := by decide +kernel
theorem dX5_init_22 : decode cX5_init 22 = .ok (.aload_n 0, 1) := by decide +kernel
theorem dX5_init_23 : decode cX5_init 23 = .ok (.iconst 4, 1) := by decide +kernel
theorem dX5_init_24 : decode cX5_init 24 = .ok (.newarray .int, 2) := by decide +kernel
theorem dX5_init_26 : decode cX5_init 26 = .ok (.putfield 22, 3) := by decide +kernel
theorem dX5_init_29 : decode cX5_init 29 = .ok (.aload_n 0, 1) := by decide +kernel
theorem dX5_init_30 : decode cX5_init 30 = .ok (.iconst 4, 1) := by decide +kernel
theorem dX5_init_31 : decode cX5_init 31 = .ok (.newarray .int, 2) := by decide +kernel
theorem dX5_init_33 : decode cX5_init 33 = .ok (.putfield 25, 3) := by decide +kernel
theorem dX5_init_36 : decode cX5_init 36 = .ok (.return_, 1) := by decide +kernel
theorem dX5_keepConditions_0 : decode cX5_keepConditions 0 = .ok (.aload_n 0, 1) := by decide +kernel
theorem dX5_keepConditions_1 : decode cX5_keepConditions 1 = .ok (.iconst 0, 1) := by decide +kernel
theorem dX5_keepConditions_2 : decode cX5_keepConditions 2 = .ok (.putfield 28, 3) := by decide +kernel
theorem dX5_keepConditions_5 : decode cX5_keepConditions 5 = .ok (.iconst 0, 1) := by decide +kernel
theorem dX5_keepConditions_6 : decode cX5_keepConditions 6 = .ok (.istore_n 3, 1) := by decide +kernel
theorem dX5_keepConditions_7 : decode cX5_keepConditions 7 = .ok (.iload_n 3, 1) := by decide +kernel
theorem dX5_keepConditions_8 : decode cX5_keepConditions 8 = .ok (.aload_n 1, 1) := by decide +kernel
theorem dX5_keepConditions_9 : decode cX5_keepConditions 9 = .ok (.getfield 32, 3) := by decide +kernel
theorem dX5_keepConditions_12 : decode cX5_keepConditions 12 = .ok (.if_icmp .ge 73, 3) := by decide +kernel
theorem dX5_keepConditions_15 : decode cX5_keepConditions 15 = .ok (.aload_n 1, 1) := by decide +kernel
theorem dX5_keepConditions_16 : decode cX5_keepConditions 16 = .ok (.iload_n 3, 1) := by decide +kernel
theorem dX5_keepConditions_17 : decode cX5_keepConditions 17 = .ok (.iload_n 2, 1) := by decide +kernel
theorem dX5_keepConditions_18 : decode cX5_keepConditions 18 = .ok (.invokevirtual 35, 3) := by decide +kernel
theorem dX5_keepConditions_21 : decode cX5_keepConditions 21 = .ok (.ifCond .eq 58, 3) := by decide +kernel
theorem dX5_keepConditions_24 : decode cX5_keepConditions 24 = .ok (.aload_n 0, 1) := by decide +kernel
theorem dX5_keepConditions_25 : decode cX5_keepConditions 25 = .ok (.getfield 18, 3) := by decide +kernel
theorem dX5_keepConditions_28 : decode cX5_keepConditions 28 = .ok (.aload_n 0, 1) := by decide +kernel
theorem dX5_keepConditions_29 : decode cX5_keepConditions 29 = .ok (.getfield 28, 3) := by decide +kernel
theorem dX5_keepConditions_32 : decode cX5_keepConditions 32 = .ok (.aload_n 1, 1) := by decide +kernel
theorem dX5_keepConditions_33 : decode cX5_keepConditions 33 = .ok (.getfield 39, 3) := by decide +kernel
theorem dX5_keepConditions_36 : decode cX5_keepConditions 36 = .ok (.iload_n 3, 1) := by decide +kernel
theorem dX5_keepConditions_37 : decode cX5_keepConditions 37 = .ok (.iaload, 1) := by decide +kernel
theorem dX5_keepConditions_38 : decode cX5_keepConditions 38 = .ok (.iastore, 1) := by decide +kernel
theorem dX5_keepConditions_39 : decode cX5_keepConditions 39 = .ok (.aload_n 0, 1) := by decide +kernel
theorem dX5_keepConditions_40 : decode cX5_keepConditions 40 = .ok (.getfield 22, 3) := by decide +kernel
theorem dX5_keepConditions_43 : decode cX5_keepConditions 43 = .ok (.aload_n 0, 1) := by decide +kernel
theorem dX5_keepConditions_44 : decode cX5_keepConditions 44 = .ok (.getfield 28, 3) := by decide +kernel
theorem dX5_keepConditions_47 : decode cX5_keepConditions 47 = .ok (.aload_n 1, 1) := by decide +kernel
theorem dX5_keepConditions_48 : decode cX5_keepConditions 48 = .ok (.getfield 42, 3) := by decide +kernel
theorem dX5_keepConditions_51 : decode cX5_keepConditions 51 = .ok (.iload_n 3, 1) := by decide +kernel
theorem dX5_keepConditions_52 : decode cX5_keepConditions 52 = .ok (.iaload, 1) := by decide +kernel
theorem dX5_keepConditions_53 : decode cX5_keepConditions 53 = .ok (.iastore, 1) := by decide +kernel
theorem dX5_keepConditions_54 : decode cX5_keepConditions 54 = .ok (.aload_n 0, 1) := by decide +kernel
theorem dX5_keepConditions_55 : decode cX5_keepConditions 55 = .ok (.getfield 25, 3) := by decide +kernel
theorem dX5_keepConditions_58 : decode cX5_keepConditions 58 = .ok (.aload_n 0, 1) := by decide +kernel
theorem dX5_keepConditions_59 : decode cX5_keepConditions 59 = .ok (.getfield 28, 3) := by decide +kernel
theorem dX5_keepConditions_62 : decode cX5_keepConditions 62 = .ok (.aload_n 1, 1) := by decide +kernel
theorem dX5_keepConditions_63 : decode cX5_keepConditions 63 = .ok (.getfield 45, 3) := by decide +kernel
theorem dX5_keepConditions_66 : decode cX5_keepConditions 66 = .ok (.iload_n 3, 1) := by decide +kernel
theorem dX5_keepConditions_67 : decode cX5_keepConditions 67 = .ok (.iaload, 1) := by decide +kernel
theorem dX5_keepConditions_68 : decode cX5_keepConditions 68 = .ok (.iastore, 1) := by decide +kernel
theorem dX5_keepConditions_69 : decode cX5_keepConditions 69 = .ok (.aload_n 0, 1) := by decide +kernel
theorem dX5_keepConditions_70 : decode cX5_keepConditions 70 = .ok (.dup, 1) := by decide +kernel
theorem dX5_keepConditions_71 : decode cX5_keepConditions 71 = .ok (.getfield 28, 3) := by decide +kernel
theorem dX5_keepConditions_74 : decode cX5_keepConditions 74 = .ok (.iconst 1, 1) := by decide +kernel
theorem dX5_keepConditions_75 : decode cX5_keepConditions 75 = .ok (.iadd, 1) := by decide +kernel
theorem dX5_keepConditions_76 : decode cX5_keepConditions 76 = .ok (.putfield 28, 3) := by decide +kernel
theorem dX5_keepConditions_79 : decode cX5_keepConditions 79 = .ok (.iinc 3 1, 3) := by decide +kernel
theorem dX5_keepConditions_82 : decode cX5_keepConditions 82 = .ok (.goto (-75), 3) := by decide +kernel
theorem dX5_keepConditions_85 : decode cX5_keepConditions 85 = .ok (.return_, 1) := by decide +kernel
theorem dX5_servesConditions_0 : decode cX5_servesConditions 0 = .ok (.iconst 0, 1) := by decide +kernel
theorem dX5_servesConditions_1 : decode cX5_servesConditions 1 = .ok (.istore_n 3, 1) := by decide +kernel
theorem dX5_servesConditions_2 : decode cX5_servesConditions 2 = .ok (.iload_n 3, 1) := by decide +kernel
theorem dX5_servesConditions_3 : decode cX5_servesConditions 3 = .ok (.aload_n 0, 1) := by decide +kernel
theorem dX5_servesConditions_4 : decode cX5_servesConditions 4 = .ok (.getfield 28, 3) := by decide +kernel
theorem dX5_servesConditions_7 : decode cX5_servesConditions 7 = .ok (.if_icmp .ge 21, 3) := by decide +kernel
theorem dX5_servesConditions_10 : decode cX5_servesConditions 10 = .ok (.aload_n 0, 1) := by decide +kernel
theorem dX5_servesConditions_11 : decode cX5_servesConditions 11 = .ok (.iload_n 3, 1) := by decide +kernel
theorem dX5_servesConditions_12 : decode cX5_servesConditions 12 = .ok (.aload_n 1, 1) := by decide +kernel
theorem dX5_servesConditions_13 : decode cX5_servesConditions 13 = .ok (.iload_n 2, 1) := by decide +kernel
theorem dX5_servesConditions_14 : decode cX5_servesConditions 14 = .ok (.invokevirtual 48, 3) := by decide +kernel
theorem dX5_servesConditions_17 : decode cX5_servesConditions 17 = .ok (.ifCond .ne 5, 3) := by decide +kernel
theorem dX5_servesConditions_20 : decode cX5_servesConditions 20 = .ok (.iconst 0, 1) := by decide +kernel
theorem dX5_servesConditions_21 : decode cX5_servesConditions 21 = .ok (.ireturn, 1) := by decide +kernel
theorem dX5_servesConditions_22 : decode cX5_servesConditions 22 = .ok (.iinc 3 1, 3) := by decide +kernel
theorem dX5_servesConditions_25 : decode cX5_servesConditions 25 = .ok (.goto (-23), 3) := by decide +kernel
theorem dX5_servesConditions_28 : decode cX5_servesConditions 28 = .ok (.iconst 1, 1) := by decide +kernel
theorem dX5_servesConditions_29 : decode cX5_servesConditions 29 = .ok (.ireturn, 1) := by decide +kernel
theorem dX5_isGiven_0 : decode cX5_isGiven 0 = .ok (.iconst 0, 1) := by decide +kernel
theorem dX5_isGiven_1 : decode cX5_isGiven 1 = .ok (.istore 4, 2) := by decide +kernel
theorem dX5_isGiven_3 : decode cX5_isGiven 3 = .ok (.iload 4, 2) := by decide +kernel
theorem dX5_isGiven_5 : decode cX5_isGiven 5 = .ok (.aload_n 2, 1) := by decide +kernel
theorem dX5_isGiven_6 : decode cX5_isGiven 6 = .ok (.getfield 32, 3) := by decide +kernel
theorem dX5_isGiven_9 : decode cX5_isGiven 9 = .ok (.if_icmp .ge 69, 3) := by decide +kernel
theorem dX5_isGiven_12 : decode cX5_isGiven 12 = .ok (.aload_n 2, 1) := by decide +kernel
theorem dX5_isGiven_13 : decode cX5_isGiven 13 = .ok (.iload 4, 2) := by decide +kernel
theorem dX5_isGiven_15 : decode cX5_isGiven 15 = .ok (.iload_n 3, 1) := by decide +kernel
theorem dX5_isGiven_16 : decode cX5_isGiven 16 = .ok (.invokevirtual 35, 3) := by decide +kernel
theorem dX5_isGiven_19 : decode cX5_isGiven 19 = .ok (.ifCond .eq 53, 3) := by decide +kernel
theorem dX5_isGiven_22 : decode cX5_isGiven 22 = .ok (.aload_n 2, 1) := by decide +kernel
theorem dX5_isGiven_23 : decode cX5_isGiven 23 = .ok (.getfield 39, 3) := by decide +kernel
theorem dX5_isGiven_26 : decode cX5_isGiven 26 = .ok (.iload 4, 2) := by decide +kernel
theorem dX5_isGiven_28 : decode cX5_isGiven 28 = .ok (.iaload, 1) := by decide +kernel
theorem dX5_isGiven_29 : decode cX5_isGiven 29 = .ok (.aload_n 0, 1) := by decide +kernel
theorem dX5_isGiven_30 : decode cX5_isGiven 30 = .ok (.getfield 18, 3) := by decide +kernel
theorem dX5_isGiven_33 : decode cX5_isGiven 33 = .ok (.iload_n 1, 1) := by decide +kernel
theorem dX5_isGiven_34 : decode cX5_isGiven 34 = .ok (.iaload, 1) := by decide +kernel
theorem dX5_isGiven_35 : decode cX5_isGiven 35 = .ok (.if_icmp .ne 37, 3) := by decide +kernel
theorem dX5_isGiven_38 : decode cX5_isGiven 38 = .ok (.aload_n 0, 1) := by decide +kernel
theorem dX5_isGiven_39 : decode cX5_isGiven 39 = .ok (.getfield 22, 3) := by decide +kernel
theorem dX5_isGiven_42 : decode cX5_isGiven 42 = .ok (.iload_n 1, 1) := by decide +kernel
theorem dX5_isGiven_43 : decode cX5_isGiven 43 = .ok (.iaload, 1) := by decide +kernel
theorem dX5_isGiven_44 : decode cX5_isGiven 44 = .ok (.aload_n 0, 1) := by decide +kernel
theorem dX5_isGiven_45 : decode cX5_isGiven 45 = .ok (.getfield 25, 3) := by decide +kernel
theorem dX5_isGiven_48 : decode cX5_isGiven 48 = .ok (.iload_n 1, 1) := by decide +kernel
theorem dX5_isGiven_49 : decode cX5_isGiven 49 = .ok (.iaload, 1) := by decide +kernel
theorem dX5_isGiven_50 : decode cX5_isGiven 50 = .ok (.aload_n 2, 1) := by decide +kernel
theorem dX5_isGiven_51 : decode cX5_isGiven 51 = .ok (.getfield 42, 3) := by decide +kernel
theorem dX5_isGiven_54 : decode cX5_isGiven 54 = .ok (.iload 4, 2) := by decide +kernel
theorem dX5_isGiven_56 : decode cX5_isGiven 56 = .ok (.iaload, 1) := by decide +kernel
theorem dX5_isGiven_57 : decode cX5_isGiven 57 = .ok (.aload_n 2, 1) := by decide +kernel
theorem dX5_isGiven_58 : decode cX5_isGiven 58 = .ok (.getfield 45, 3) := by decide +kernel
theorem dX5_isGiven_61 : decode cX5_isGiven 61 = .ok (.iload 4, 2) := by decide +kernel
theorem dX5_isGiven_63 : decode cX5_isGiven 63 = .ok (.iaload, 1) := by decide +kernel
theorem dX5_isGiven_64 : decode cX5_isGiven 64 = .ok (.invokestatic 52, 3) := by decide +kernel
theorem dX5_isGiven_67 : decode cX5_isGiven 67 = .ok (.ifCond .eq 5, 3) := by decide +kernel
theorem dX5_isGiven_70 : decode cX5_isGiven 70 = .ok (.iconst 1, 1) := by decide +kernel
theorem dX5_isGiven_71 : decode cX5_isGiven 71 = .ok (.ireturn, 1) := by decide +kernel
theorem dX5_isGiven_72 : decode cX5_isGiven 72 = .ok (.iinc 4 1, 3) := by decide +kernel
theorem dX5_isGiven_75 : decode cX5_isGiven 75 = .ok (.goto (-72), 3) := by decide +kernel
theorem dX5_isGiven_78 : decode cX5_isGiven 78 = .ok (.iconst 0, 1) := by decide +kernel
theorem dX5_isGiven_79 : decode cX5_isGiven 79 = .ok (.ireturn, 1) := by decide +kernel
theorem dX6_init_0 : decode cX6_init 0 = .ok (.aload_n 0, 1) := by decide +kernel
theorem dX6_init_1 : decode cX6_init 1 = .ok (.invokespecial 3, 3) := by decide +kernel
theorem dX6_init_4 : decode cX6_init 4 = .ok (.aload_n 0, 1) := by decide +kernel
theorem dX6_init_5 : decode cX6_init 5 = .ok (.bipush 12, 2) := by decide +kernel
theorem dX6_init_7 : decode cX6_init 7 = .ok (.newarray .int, 2) := by decide +kernel
theorem dX6_init_9 : decode cX6_init 9 = .ok (.putfield 9, 3) := by decide +kernel
theorem dX6_init_12 : decode cX6_init 12 = .ok (.aload_n 0, 1) := by decide +kernel
theorem dX6_init_13 : decode cX6_init 13 = .ok (.bipush 48, 2) := by decide +kernel
theorem dX6_init_15 : decode cX6_init 15 = .ok (.newarray .int, 2) := by decide +kernel
theorem dX6_init_17 : decode cX6_init 17 = .ok (.putfield 15, 3) := by decide +kernel
theorem dX6_init_20 : decode cX6_init 20 = .ok (.return_, 1) := by decide +kernel
theorem dX6_placeOf_0 : decode cX6_placeOf 0 = .ok (.iconst 0, 1) := by decide +kernel
theorem dX6_placeOf_1 : decode cX6_placeOf 1 = .ok (.istore_n 2, 1) := by decide +kernel
theorem dX6_placeOf_2 : decode cX6_placeOf 2 = .ok (.iload_n 2, 1) := by decide +kernel
theorem dX6_placeOf_3 : decode cX6_placeOf 3 = .ok (.aload_n 0, 1) := by decide +kernel
theorem dX6_placeOf_4 : decode cX6_placeOf 4 = .ok (.getfield 18, 3) := by decide +kernel
theorem dX6_placeOf_7 : decode cX6_placeOf 7 = .ok (.if_icmp .ge 21, 3) := by decide +kernel
theorem dX6_placeOf_10 : decode cX6_placeOf 10 = .ok (.aload_n 0, 1) := by decide +kernel
theorem dX6_placeOf_11 : decode cX6_placeOf 11 = .ok (.getfield 9, 3) := by decide +kernel
theorem dX6_placeOf_14 : decode cX6_placeOf 14 = .ok (.iload_n 2, 1) := by decide +kernel
theorem dX6_placeOf_15 : decode cX6_placeOf 15 = .ok (.iaload, 1) := by decide +kernel
theorem dX6_placeOf_16 : decode cX6_placeOf 16 = .ok (.iload_n 1, 1) := by decide +kernel
theorem dX6_placeOf_17 : decode cX6_placeOf 17 = .ok (.if_icmp .ne 5, 3) := by decide +kernel
theorem dX6_placeOf_20 : decode cX6_placeOf 20 = .ok (.iload_n 2, 1) := by decide +kernel
theorem dX6_placeOf_21 : decode cX6_placeOf 21 = .ok (.ireturn, 1) := by decide +kernel
theorem dX6_placeOf_22 : decode cX6_placeOf 22 = .ok (.iinc 2 1, 3) := by decide +kernel
theorem dX6_placeOf_25 : decode cX6_placeOf 25 = .ok (.goto (-23), 3) := by decide +kernel
theorem dX6_placeOf_28 : decode cX6_placeOf 28 = .ok (.iconst (-1), 1) := by decide +kernel
theorem dX6_placeOf_29 : decode cX6_placeOf 29 = .ok (.ireturn, 1) := by decide +kernel
theorem dX6_hasMark_0 : decode cX6_hasMark 0 = .ok (.aload_n 0, 1) := by decide +kernel
theorem dX6_hasMark_1 : decode cX6_hasMark 1 = .ok (.iload_n 1, 1) := by decide +kernel
theorem dX6_hasMark_2 : decode cX6_hasMark 2 = .ok (.invokevirtual 22, 3) := by decide +kernel
theorem dX6_hasMark_5 : decode cX6_hasMark 5 = .ok (.iconst (-1), 1) := by decide +kernel
theorem dX6_hasMark_6 : decode cX6_hasMark 6 = .ok (.if_icmp .eq 7, 3) := by decide +kernel
theorem dX6_hasMark_9 : decode cX6_hasMark 9 = .ok (.iconst 1, 1) := by decide +kernel
theorem dX6_hasMark_10 : decode cX6_hasMark 10 = .ok (.goto 4, 3) := by decide +kernel
theorem dX6_hasMark_13 : decode cX6_hasMark 13 = .ok (.iconst 0, 1) := by decide +kernel
theorem dX6_hasMark_14 : decode cX6_hasMark 14 = .ok (.ireturn, 1) := by decide +kernel
theorem dX6_cellAt_0 : decode cX6_cellAt 0 = .ok (.aload_n 0, 1) := by decide +kernel
theorem dX6_cellAt_1 : decode cX6_cellAt 1 = .ok (.iload_n 1, 1) := by decide +kernel
theorem dX6_cellAt_2 : decode cX6_cellAt 2 = .ok (.iload_n 2, 1) := by decide +kernel
theorem dX6_cellAt_3 : decode cX6_cellAt 3 = .ok (.invokevirtual 26, 3) := by decide +kernel
theorem dX6_cellAt_6 : decode cX6_cellAt 6 = .ok (.ifCond .eq 16, 3) := by decide +kernel
theorem dX6_cellAt_9 : decode cX6_cellAt 9 = .ok (.aload_n 0, 1) := by decide +kernel
theorem dX6_cellAt_10 : decode cX6_cellAt 10 = .ok (.getfield 15, 3) := by decide +kernel
theorem dX6_cellAt_13 : decode cX6_cellAt 13 = .ok (.iload_n 1, 1) := by decide +kernel
theorem dX6_cellAt_14 : decode cX6_cellAt 14 = .ok (.iconst 4, 1) := by decide +kernel
theorem dX6_cellAt_15 : decode cX6_cellAt 15 = .ok (.imul, 1) := by decide +kernel
theorem dX6_cellAt_16 : decode cX6_cellAt 16 = .ok (.iload_n 2, 1) := by decide +kernel
theorem dX6_cellAt_17 : decode cX6_cellAt 17 = .ok (.iadd, 1) := by decide +kernel
theorem dX6_cellAt_18 : decode cX6_cellAt 18 = .ok (.iaload, 1) := by decide +kernel
theorem dX6_cellAt_19 : decode cX6_cellAt 19 = .ok (.goto 6, 3) := by decide +kernel
theorem dX6_cellAt_22 : decode cX6_cellAt 22 = .ok (.sipush 5000, 3) := by decide +kernel
theorem dX6_cellAt_25 : decode cX6_cellAt 25 = .ok (.ireturn, 1) := by decide +kernel
theorem dX6_putCell_0 : decode cX6_putCell 0 = .ok (.aload_n 0, 1) := by decide +kernel
theorem dX6_putCell_1 : decode cX6_putCell 1 = .ok (.iload_n 1, 1) := by decide +kernel
theorem dX6_putCell_2 : decode cX6_putCell 2 = .ok (.iload_n 2, 1) := by decide +kernel
theorem dX6_putCell_3 : decode cX6_putCell 3 = .ok (.invokevirtual 26, 3) := by decide +kernel
theorem dX6_putCell_6 : decode cX6_putCell 6 = .ok (.ifCond .eq 14, 3) := by decide +kernel
theorem dX6_putCell_9 : decode cX6_putCell 9 = .ok (.aload_n 0, 1) := by decide +kernel
theorem dX6_putCell_10 : decode cX6_putCell 10 = .ok (.getfield 15, 3) := by decide +kernel
theorem dX6_putCell_13 : decode cX6_putCell 13 = .ok (.iload_n 1, 1) := by decide +kernel
theorem dX6_putCell_14 : decode cX6_putCell 14 = .ok (.iconst 4, 1) := by decide +kernel
theorem dX6_putCell_15 : decode cX6_putCell 15 = .ok (.imul, 1) := by decide +kernel
theorem dX6_putCell_16 : decode cX6_putCell 16 = .ok (.iload_n 2, 1) := by decide +kernel
theorem dX6_putCell_17 : decode cX6_putCell 17 = .ok (.iadd, 1) := by decide +kernel
theorem dX6_putCell_18 : decode cX6_putCell 18 = .ok (.iload_n 3, 1) := by decide +kernel
theorem dX6_putCell_19 : decode cX6_putCell 19 = .ok (.iastore, 1) := by decide +kernel
theorem dX6_putCell_20 : decode cX6_putCell 20 = .ok (.return_, 1) := by decide +kernel
theorem dX6_makePlace_0 : decode cX6_makePlace 0 = .ok (.aload_n 0, 1) := by decide +kernel
theorem dX6_makePlace_1 : decode cX6_makePlace 1 = .ok (.getfield 18, 3) := by decide +kernel
theorem dX6_makePlace_4 : decode cX6_makePlace 4 = .ok (.bipush 12, 2) := by decide +kernel
theorem dX6_makePlace_6 : decode cX6_makePlace 6 = .ok (.if_icmp .lt 5, 3) := by decide +kernel
theorem dX6_makePlace_9 : decode cX6_makePlace 9 = .ok (.iconst (-1), 1) := by decide +kernel
theorem dX6_makePlace_10 : decode cX6_makePlace 10 = .ok (.ireturn, 1) := by decide +kernel
theorem dX6_makePlace_11 : decode cX6_makePlace 11 = .ok (.aload_n 0, 1) := by decide +kernel
theorem dX6_makePlace_12 : decode cX6_makePlace 12 = .ok (.getfield 18, 3) := by decide +kernel
theorem dX6_makePlace_15 : decode cX6_makePlace 15 = .ok (.istore_n 2, 1) := by decide +kernel
theorem dX6_makePlace_16 : decode cX6_makePlace 16 = .ok (.aload_n 0, 1) := by decide +kernel
theorem dX6_makePlace_17 : decode cX6_makePlace 17 = .ok (.dup, 1) := by decide +kernel
theorem dX6_makePlace_18 : decode cX6_makePlace 18 = .ok (.getfield 18, 3) := by decide +kernel
theorem dX6_makePlace_21 : decode cX6_makePlace 21 = .ok (.iconst 1, 1) := by decide +kernel
theorem dX6_makePlace_22 : decode cX6_makePlace 22 = .ok (.iadd, 1) := by decide +kernel
theorem dX6_makePlace_23 : decode cX6_makePlace 23 = .ok (.putfield 18, 3) := by decide +kernel
theorem dX6_makePlace_26 : decode cX6_makePlace 26 = .ok (.iload_n 2, 1) := by decide +kernel
theorem dX6_makePlace_27 : decode cX6_makePlace 27 = .ok (.ifCond .le 29, 3) := by decide +kernel
theorem dX6_makePlace_30 : decode cX6_makePlace 30 = .ok (.aload_n 0, 1) := by decide +kernel
theorem dX6_makePlace_31 : decode cX6_makePlace 31 = .ok (.getfield 9, 3) := by decide +kernel
theorem dX6_makePlace_34 : decode cX6_makePlace 34 = .ok (.iload_n 2, 1) := by decide +kernel
theorem dX6_makePlace_35 : decode cX6_makePlace 35 = .ok (.iconst 1, 1) := by decide +kernel
theorem dX6_makePlace_36 : decode cX6_makePlace 36 = .ok (.isub, 1) := by decide +kernel
theorem dX6_makePlace_37 : decode cX6_makePlace 37 = .ok (.iaload, 1) := by decide +kernel
theorem dX6_makePlace_38 : decode cX6_makePlace 38 = .ok (.iload_n 1, 1) := by decide +kernel
theorem dX6_makePlace_39 : decode cX6_makePlace 39 = .ok (.if_icmp .le 17, 3) := by decide +kernel
theorem dX6_makePlace_42 : decode cX6_makePlace 42 = .ok (.aload_n 0, 1) := by decide +kernel
theorem dX6_makePlace_43 : decode cX6_makePlace 43 = .ok (.iload_n 2, 1) := by decide +kernel
theorem dX6_makePlace_44 : decode cX6_makePlace 44 = .ok (.iconst 1, 1) := by decide +kernel
theorem dX6_makePlace_45 : decode cX6_makePlace 45 = .ok (.isub, 1) := by decide +kernel
theorem dX6_makePlace_46 : decode cX6_makePlace 46 = .ok (.iload_n 2, 1) := by decide +kernel
theorem dX6_makePlace_47 : decode cX6_makePlace 47 = .ok (.invokevirtual 30, 3) := by decide +kernel
theorem dX6_makePlace_50 : decode cX6_makePlace 50 = .ok (.iinc 2 (-1), 3) := by decide +kernel
theorem dX6_makePlace_53 : decode cX6_makePlace 53 = .ok (.goto (-27), 3) := by decide +kernel
theorem dX6_makePlace_56 : decode cX6_makePlace 56 = .ok (.aload_n 0, 1) := by decide +kernel
theorem dX6_makePlace_57 : decode cX6_makePlace 57 = .ok (.getfield 9, 3) := by decide +kernel
theorem dX6_makePlace_60 : decode cX6_makePlace 60 = .ok (.iload_n 2, 1) := by decide +kernel
theorem dX6_makePlace_61 : decode cX6_makePlace 61 = .ok (.iload_n 1, 1) := by decide +kernel
theorem dX6_makePlace_62 : decode cX6_makePlace 62 = .ok (.iastore, 1) := by decide +kernel
theorem dX6_makePlace_63 : decode cX6_makePlace 63 = .ok (.iload_n 2, 1) := by decide +kernel
theorem dX6_makePlace_64 : decode cX6_makePlace 64 = .ok (.ireturn, 1) := by decide +kernel
theorem dX6_dropPlace_0 : decode cX6_dropPlace 0 = .ok (.iload_n 1, 1) := by decide +kernel
theorem dX6_dropPlace_1 : decode cX6_dropPlace 1 = .ok (.ifCond .lt 11, 3) := by decide +kernel
theorem dX6_dropPlace_4 : decode cX6_dropPlace 4 = .ok (.iload_n 1, 1) := by decide +kernel
theorem dX6_dropPlace_5 : decode cX6_dropPlace 5 = .ok (.aload_n 0, 1) := by decide +kernel
theorem dX6_dropPlace_6 : decode cX6_dropPlace 6 = .ok (.getfield 18, 3) := by decide +kernel
theorem dX6_dropPlace_9 : decode cX6_dropPlace 9 = .ok (.if_icmp .lt 4, 3) := by decide +kernel
theorem dX6_dropPlace_12 : decode cX6_dropPlace 12 = .ok (.return_, 1) := by decide +kernel
theorem dX6_dropPlace_13 : decode cX6_dropPlace 13 = .ok (.iload_n 1, 1) := by decide +kernel
theorem dX6_dropPlace_14 : decode cX6_dropPlace 14 = .ok (.iconst 1, 1) := by decide +kernel
theorem dX6_dropPlace_15 : decode cX6_dropPlace 15 = .ok (.iadd, 1) := by decide +kernel
theorem dX6_dropPlace_16 : decode cX6_dropPlace 16 = .ok (.istore_n 2, 1) := by decide +kernel
theorem dX6_dropPlace_17 : decode cX6_dropPlace 17 = .ok (.iload_n 2, 1) := by decide +kernel
theorem dX6_dropPlace_18 : decode cX6_dropPlace 18 = .ok (.aload_n 0, 1) := by decide +kernel
theorem dX6_dropPlace_19 : decode cX6_dropPlace 19 = .ok (.getfield 18, 3) := by decide +kernel
theorem dX6_dropPlace_22 : decode cX6_dropPlace 22 = .ok (.if_icmp .ge 17, 3) := by decide +kernel
theorem dX6_dropPlace_25 : decode cX6_dropPlace 25 = .ok (.aload_n 0, 1) := by decide +kernel
theorem dX6_dropPlace_26 : decode cX6_dropPlace 26 = .ok (.iload_n 2, 1) := by decide +kernel
theorem dX6_dropPlace_27 : decode cX6_dropPlace 27 = .ok (.iload_n 2, 1) := by decide +kernel
theorem dX6_dropPlace_28 : decode cX6_dropPlace 28 = .ok (.iconst 1, 1) := by decide +kernel
theorem dX6_dropPlace_29 : decode cX6_dropPlace 29 = .ok (.isub, 1) := by decide +kernel
theorem dX6_dropPlace_30 : decode cX6_dropPlace 30 = .ok (.invokevirtual 30, 3) := by decide +kernel
theorem dX6_dropPlace_33 : decode cX6_dropPlace 33 = .ok (.iinc 2 1, 3) := by decide +kernel
theorem dX6_dropPlace_36 : decode cX6_dropPlace 36 = .ok (.goto (-19), 3) := by decide +kernel
theorem dX6_dropPlace_39 : decode cX6_dropPlace 39 = .ok (.aload_n 0, 1) := by decide +kernel
theorem dX6_dropPlace_40 : decode cX6_dropPlace 40 = .ok (.dup, 1) := by decide +kernel
theorem dX6_dropPlace_41 : decode cX6_dropPlace 41 = .ok (.getfield 18, 3) := by decide +kernel
theorem dX6_dropPlace_44 : decode cX6_dropPlace 44 = .ok (.iconst 1, 1) := by decide +kernel
theorem dX6_dropPlace_45 : decode cX6_dropPlace 45 = .ok (.isub, 1) := by decide +kernel
theorem dX6_dropPlace_46 : decode cX6_dropPlace 46 = .ok (.putfield 18, 3) := by decide +kernel
theorem dX6_dropPlace_49 : decode cX6_dropPlace 49 = .ok (.return_, 1) := by decide +kernel
theorem dX6_takeRow_0 : decode cX6_takeRow 0 = .ok (.iload_n 2, 1) := by decide +kernel
theorem dX6_takeRow_1 : decode cX6_takeRow 1 = .ok (.ifCond .lt 11, 3) := by decide +kernel
theorem dX6_takeRow_4 : decode cX6_takeRow 4 = .ok (.iload_n 2, 1) := by decide +kernel
theorem dX6_takeRow_5 : decode cX6_takeRow 5 = .ok (.aload_n 1, 1) := by decide +kernel
theorem dX6_takeRow_6 : decode cX6_takeRow 6 = .ok (.getfield 18, 3) := by decide +kernel
theorem dX6_takeRow_9 : decode cX6_takeRow 9 = .ok (.if_icmp .lt 4, 3) := by decide +kernel
theorem dX6_takeRow_12 : decode cX6_takeRow 12 = .ok (.return_, 1) := by decide +kernel
theorem dX6_takeRow_13 : decode cX6_takeRow 13 = .ok (.aload_n 0, 1) := by decide +kernel
theorem dX6_takeRow_14 : decode cX6_takeRow 14 = .ok (.aload_n 1, 1) := by decide +kernel
theorem dX6_takeRow_15 : decode cX6_takeRow 15 = .ok (.getfield 9, 3) := by decide +kernel
theorem dX6_takeRow_18 : decode cX6_takeRow 18 = .ok (.iload_n 2, 1) := by decide +kernel
theorem dX6_takeRow_19 : decode cX6_takeRow 19 = .ok (.iaload, 1) := by decide +kernel
theorem dX6_takeRow_20 : decode cX6_takeRow 20 = .ok (.invokevirtual 34, 3) := by decide +kernel
theorem dX6_takeRow_23 : decode cX6_takeRow 23 = .ok (.istore_n 3, 1) := by decide +kernel
theorem dX6_takeRow_24 : decode cX6_takeRow 24 = .ok (.iconst 0, 1) := by decide +kernel
theorem dX6_takeRow_25 : decode cX6_takeRow 25 = .ok (.istore 4, 2) := by decide +kernel
theorem dX6_takeRow_27 : decode cX6_takeRow 27 = .ok (.iload 4, 2) := by decide +kernel
theorem dX6_takeRow_29 : decode cX6_takeRow 29 = .ok (.iconst 4, 1) := by decide +kernel
theorem dX6_takeRow_30 : decode cX6_takeRow 30 = .ok (.if_icmp .ge 23, 3) := by decide +kernel
theorem dX6_takeRow_33 : decode cX6_takeRow 33 = .ok (.aload_n 0, 1) := by decide +kernel
theorem dX6_takeRow_34 : decode cX6_takeRow 34 = .ok (.iload_n 3, 1) := by decide +kernel
theorem dX6_takeRow_35 : decode cX6_takeRow 35 = .ok (.iload 4, 2) := by decide +kernel
theorem dX6_takeRow_37 : decode cX6_takeRow 37 = .ok (.aload_n 1, 1) := by decide +kernel
theorem dX6_takeRow_38 : decode cX6_takeRow 38 = .ok (.iload_n 2, 1) := by decide +kernel
theorem dX6_takeRow_39 : decode cX6_takeRow 39 = .ok (.iload 4, 2) := by decide +kernel
theorem dX6_takeRow_41 : decode cX6_takeRow 41 = .ok (.invokevirtual 37, 3) := by decide +kernel
theorem dX6_takeRow_44 : decode cX6_takeRow 44 = .ok (.invokevirtual 41, 3) := by decide +kernel
theorem dX6_takeRow_47 : decode cX6_takeRow 47 = .ok (.iinc 4 1, 3) := by decide +kernel
theorem dX6_takeRow_50 : decode cX6_takeRow 50 = .ok (.goto (-23), 3) := by decide +kernel
theorem dX6_takeRow_53 : decode cX6_takeRow 53 = .ok (.return_, 1) := by decide +kernel
theorem dX6_copy_0 : decode cX6_copy 0 = .ok (.aload_n 0, 1) := by decide +kernel
theorem dX6_copy_1 : decode cX6_copy 1 = .ok (.aload_n 1, 1) := by decide +kernel
theorem dX6_copy_2 : decode cX6_copy 2 = .ok (.getfield 18, 3) := by decide +kernel
theorem dX6_copy_5 : decode cX6_copy 5 = .ok (.putfield 18, 3) := by decide +kernel
theorem dX6_copy_8 : decode cX6_copy 8 = .ok (.aload_n 1, 1) := by decide +kernel
theorem dX6_copy_9 : decode cX6_copy 9 = .ok (.getfield 9, 3) := by decide +kernel
theorem dX6_copy_12 : decode cX6_copy 12 = .ok (.iconst 0, 1) := by decide +kernel
theorem dX6_copy_13 : decode cX6_copy 13 = .ok (.aload_n 0, 1) := by decide +kernel
theorem dX6_copy_14 : decode cX6_copy 14 = .ok (.getfield 9, 3) := by decide +kernel
theorem dX6_copy_17 : decode cX6_copy 17 = .ok (.iconst 0, 1) := by decide +kernel
theorem dX6_copy_18 : decode cX6_copy 18 = .ok (.bipush 12, 2) := by decide +kernel
theorem dX6_copy_20 : decode cX6_copy 20 = .ok (.invokestatic 45, 3) := by decide +kernel
theorem dX6_copy_23 : decode cX6_copy 23 = .ok (.aload_n 1, 1) := by decide +kernel
theorem dX6_copy_24 : decode cX6_copy 24 = .ok (.getfield 15, 3) := by decide +kernel
theorem dX6_copy_27 : decode cX6_copy 27 = .ok (.iconst 0, 1) := by decide +kernel
theorem dX6_copy_28 : decode cX6_copy 28 = .ok (.aload_n 0, 1) := by decide +kernel
theorem dX6_copy_29 : decode cX6_copy 29 = .ok (.getfield 15, 3) := by decide +kernel
theorem dX6_copy_32 : decode cX6_copy 32 = .ok (.iconst 0, 1) := by decide +kernel
theorem dX6_copy_33 : decode cX6_copy 33 = .ok (.bipush 48, 2) := by decide +kernel
theorem dX6_copy_35 : decode cX6_copy 35 = .ok (.invokestatic 45, 3) := by decide +kernel
theorem dX6_copy_38 : decode cX6_copy 38 = .ok (.return_, 1) := by decide +kernel
theorem dX6_isCell_0 : decode cX6_isCell 0 = .ok (.iload_n 1, 1) := by decide +kernel
theorem dX6_isCell_1 : decode cX6_isCell 1 = .ok (.ifCond .lt 24, 3) := by decide +kernel
theorem dX6_isCell_4 : decode cX6_isCell 4 = .ok (.iload_n 1, 1) := by decide +kernel
theorem dX6_isCell_5 : decode cX6_isCell 5 = .ok (.aload_n 0, 1) := by decide +kernel
theorem dX6_isCell_6 : decode cX6_isCell 6 = .ok (.getfield 18, 3) := by decide +kernel
theorem dX6_isCell_9 : decode cX6_isCell 9 = .ok (.if_icmp .ge 16, 3) := by decide +kernel
theorem dX6_isCell_12 : decode cX6_isCell 12 = .ok (.iload_n 2, 1) := by decide +kernel
theorem dX6_isCell_13 : decode cX6_isCell 13 = .ok (.ifCond .lt 12, 3) := by decide +kernel
theorem dX6_isCell_16 : decode cX6_isCell 16 = .ok (.iload_n 2, 1) := by decide +kernel
theorem dX6_isCell_17 : decode cX6_isCell 17 = .ok (.iconst 4, 1) := by decide +kernel
theorem dX6_isCell_18 : decode cX6_isCell 18 = .ok (.if_icmp .ge 7, 3) := by decide +kernel
theorem dX6_isCell_21 : decode cX6_isCell 21 = .ok (.iconst 1, 1) := by decide +kernel
theorem dX6_isCell_22 : decode cX6_isCell 22 = .ok (.goto 4, 3) := by decide +kernel
theorem dX6_isCell_25 : decode cX6_isCell 25 = .ok (.iconst 0, 1) := by decide +kernel
theorem dX6_isCell_26 : decode cX6_isCell 26 = .ok (.ireturn, 1) := by decide +kernel
theorem dX6_moveRow_0 : decode cX6_moveRow 0 = .ok (.aload_n 0, 1) := by decide +kernel
theorem dX6_moveRow_1 : decode cX6_moveRow 1 = .ok (.getfield 9, 3) := by decide +kernel
theorem dX6_moveRow_4 : decode cX6_moveRow 4 = .ok (.iload_n 2, 1) := by decide +kernel
theorem dX6_moveRow_5 : decode cX6_moveRow 5 = .ok (.aload_n 0, 1) := by decide +kernel
theorem dX6_moveRow_6 : decode cX6_moveRow 6 = .ok (.getfield 9, 3) := by decide +kernel
theorem dX6_moveRow_9 : decode cX6_moveRow 9 = .ok (.iload_n 1, 1) := by decide +kernel
theorem dX6_moveRow_10 : decode cX6_moveRow 10 = .ok (.iaload, 1) := by decide +kernel
theorem dX6_moveRow_11 : decode cX6_moveRow 11 = .ok (.iastore, 1) := by decide +kernel
theorem dX6_moveRow_12 : decode cX6_moveRow 12 = .ok (.iconst 0, 1) := by decide +kernel
theorem dX6_moveRow_13 : decode cX6_moveRow 13 = .ok (.istore_n 3, 1) := by decide +kernel
theorem dX6_moveRow_14 : decode cX6_moveRow 14 = .ok (.iload_n 3, 1) := by decide +kernel
theorem dX6_moveRow_15 : decode cX6_moveRow 15 = .ok (.iconst 4, 1) := by decide +kernel
theorem dX6_moveRow_16 : decode cX6_moveRow 16 = .ok (.if_icmp .ge 29, 3) := by decide +kernel
theorem dX6_moveRow_19 : decode cX6_moveRow 19 = .ok (.aload_n 0, 1) := by decide +kernel
theorem dX6_moveRow_20 : decode cX6_moveRow 20 = .ok (.getfield 15, 3) := by decide +kernel
theorem dX6_moveRow_23 : decode cX6_moveRow 23 = .ok (.iload_n 2, 1) := by decide +kernel
theorem dX6_moveRow_24 : decode cX6_moveRow 24 = .ok (.iconst 4, 1) := by decide +kernel
theorem dX6_moveRow_25 : decode cX6_moveRow 25 = .ok (.imul, 1) := by decide +kernel
theorem dX6_moveRow_26 : decode cX6_moveRow 26 = .ok (.iload_n 3, 1) := by decide +kernel
theorem dX6_moveRow_27 : decode cX6_moveRow 27 = .ok (.iadd, 1) := by decide +kernel
theorem dX6_moveRow_28 : decode cX6_moveRow 28 = .ok (.aload_n 0, 1) := by decide +kernel
theorem dX6_moveRow_29 : decode cX6_moveRow 29 = .ok (.getfield 15, 3) := by decide +kernel
theorem dX6_moveRow_32 : decode cX6_moveRow 32 = .ok (.iload_n 1, 1) := by decide +kernel
theorem dX6_moveRow_33 : decode cX6_moveRow 33 = .ok (.iconst 4, 1) := by decide +kernel
theorem dX6_moveRow_34 : decode cX6_moveRow 34 = .ok (.imul, 1) := by decide +kernel
theorem dX6_moveRow_35 : decode cX6_moveRow 35 = .ok (.iload_n 3, 1) := by decide +kernel
theorem dX6_moveRow_36 : decode cX6_moveRow 36 = .ok (.iadd, 1) := by decide +kernel
theorem dX6_moveRow_37 : decode cX6_moveRow 37 = .ok (.iaload, 1) := by decide +kernel
theorem dX6_moveRow_38 : decode cX6_moveRow 38 = .ok (.iastore, 1) := by decide +kernel
theorem dX6_moveRow_39 : decode cX6_moveRow 39 = .ok (.iinc 3 1, 3) := by decide +kernel
theorem dX6_moveRow_42 : decode cX6_moveRow 42 = .ok (.goto (-28), 3) := by decide +kernel
theorem dX6_moveRow_45 : decode cX6_moveRow 45 = .ok (.return_, 1) := by decide +kernel
theorem dX7_init_0 : decode cX7_init 0 = .ok (.aload_n 0, 1) := by decide +kernel
theorem dX7_init_1 : decode cX7_init 1 = .ok (.invokespecial 3, 3) := by decide +kernel
theorem dX7_init_4 : decode cX7_init 4 = .ok (.aload_n 0, 1) := by decide +kernel
theorem dX7_init_5 : decode cX7_init 5 = .ok (.bipush 6, 2) := by decide +kernel
theorem dX7_init_7 : decode cX7_init 7 = .ok (.anewarray 9, 3) := by decide +kernel
theorem dX7_init_10 : decode cX7_init 10 = .ok (.putfield 11, 3) := by decide +kernel
theorem dX7_init_13 : decode cX7_init 13 = .ok (.aload_n 0, 1) := by decide +kernel
theorem dX7_init_14 : decode cX7_init 14 = .ok (.bipush 6, 2) := by decide +kernel
theorem dX7_init_16 : decode cX7_init 16 = .ok (.newarray .int, 2) := by decide +kernel
theorem dX7_init_18 : decode cX7_init 18 = .ok (.putfield 17, 3) := by decide +kernel
theorem dX7_init_21 : decode cX7_init 21 = .ok (.aload_n 0, 1) := by decide +kernel
theorem dX7_init_22 : decode cX7_init 22 = .ok (.bipush 6, 2) := by decide +kernel
theorem dX7_init_24 : decode cX7_init 24 = .ok (.newarray .int, 2) := by decide +kernel
theorem dX7_init_26 : decode cX7_init 26 = .ok (.putfield 21, 3) := by decide +kernel
theorem dX7_init_29 : decode cX7_init 29 = .ok (.aload_n 0, 1) := by decide +kernel
theorem dX7_init_30 : decode cX7_init 30 = .ok (.bipush 6, 2) := by decide +kernel
theorem dX7_init_32 : decode cX7_init 32 = .ok (.newarray .int, 2) := by decide +kernel
theorem dX7_init_34 : decode cX7_init 34 = .ok (.putfield 24, 3) := by decide +kernel
theorem dX7_init_37 : decode cX7_init 37 = .ok (.aload_n 0, 1) := by decide +kernel
theorem dX7_init_38 : decode cX7_init 38 = .ok (.aload_n 1, 1) := by decide +kernel
theorem dX7_init_39 : decode cX7_init 39 = .ok (.putfield 27, 3) := by decide +kernel
theorem dX7_init_42 : decode cX7_init 42 = .ok (.aload_n 0, 1) := by decide +kernel
theorem dX7_init_43 : decode cX7_init 43 = .ok (.aload_n 2, 1) := by decide +kernel
theorem dX7_init_44 : decode cX7_init 44 = .ok (.putfield 31, 3) := by decide +kernel
theorem dX7_init_47 : decode cX7_init 47 = .ok (.iconst 0, 1) := by decide +kernel
theorem dX7_init_48 : decode cX7_init 48 = .ok (.istore_n 3, 1) := by decide +kernel
theorem dX7_init_49 : decode cX7_init 49 = .ok (.iload_n 3, 1) := by decide +kernel
theorem dX7_init_50 : decode cX7_init 50 = .ok (.bipush 6, 2) := by decide +kernel
theorem dX7_init_52 : decode cX7_init 52 = .ok (.if_icmp .ge 30, 3) := by decide +kernel
theorem dX7_init_55 : decode cX7_init 55 = .ok (.aload_n 0, 1) := by decide +kernel
theorem dX7_init_56 : decode cX7_init 56 = .ok (.getfield 11, 3) := by decide +kernel
theorem dX7_init_59 : decode cX7_init 59 = .ok (.iload_n 3, 1) := by decide +kernel
theorem dX7_init_60 : decode cX7_init 60 = .ok (.new 9, 3) := by decide +kernel
theorem dX7_init_63 : decode cX7_init 63 = .ok (.dup, 1) := by decide +kernel
theorem dX7_init_64 : decode cX7_init 64 = .ok (.invokespecial 35, 3) := by decide +kernel
theorem dX7_init_67 : decode cX7_init 67 = .ok (.aastore, 1) := by decide +kernel
theorem dX7_init_68 : decode cX7_init 68 = .ok (.aload_n 0, 1) := by decide +kernel
theorem dX7_init_69 : decode cX7_init 69 = .ok (.getfield 21, 3) := by decide +kernel
theorem dX7_init_72 : decode cX7_init 72 = .ok (.iload_n 3, 1) := by decide +kernel
theorem dX7_init_73 : decode cX7_init 73 = .ok (.bipush 10, 2) := by decide +kernel
theorem dX7_init_75 : decode cX7_init 75 = .ok (.iastore, 1) := by decide +kernel
theorem dX7_init_76 : decode cX7_init 76 = .ok (.iinc 3 1, 3) := by decide +kernel
theorem dX7_init_79 : decode cX7_init 79 = .ok (.goto (-30), 3) := by decide +kernel
theorem dX7_init_82 : decode cX7_init 82 = .ok (.return_, 1) := by decide +kernel
theorem dX7_hasRoom_0 : decode cX7_hasRoom 0 = .ok (.aload_n 0, 1) := by decide +kernel
theorem dX7_hasRoom_1 : decode cX7_hasRoom 1 = .ok (.getfield 11, 3) := by decide +kernel
theorem dX7_hasRoom_4 : decode cX7_hasRoom 4 = .ok (.iload_n 1, 1) := by decide +kernel
theorem dX7_hasRoom_5 : decode cX7_hasRoom 5 = .ok (.aaload, 1) := by decide +kernel
theorem dX7_hasRoom_6 : decode cX7_hasRoom 6 = .ok (.getfield 36, 3) := by decide +kernel
theorem dX7_hasRoom_9 : decode cX7_hasRoom 9 = .ok (.bipush 12, 2) := by decide +kernel
theorem dX7_hasRoom_11 : decode cX7_hasRoom 11 = .ok (.if_icmp .lt 5, 3) := by decide +kernel
theorem dX7_hasRoom_14 : decode cX7_hasRoom 14 = .ok (.iconst 0, 1) := by decide +kernel
theorem dX7_hasRoom_15 : decode cX7_hasRoom 15 = .ok (.ireturn, 1) := by decide +kernel
theorem dX7_hasRoom_16 : decode cX7_hasRoom 16 = .ok (.iload_n 1, 1) := by decide +kernel
theorem dX7_hasRoom_17 : decode cX7_hasRoom 17 = .ok (.invokestatic 40, 3) := by decide +kernel
theorem dX7_hasRoom_20 : decode cX7_hasRoom 20 = .ok (.ifCond .ne 22, 3) := by decide +kernel
theorem dX7_hasRoom_23 : decode cX7_hasRoom 23 = .ok (.aload_n 0, 1) := by decide +kernel
theorem dX7_hasRoom_24 : decode cX7_hasRoom 24 = .ok (.getfield 17, 3) := by decide +kernel
theorem dX7_hasRoom_27 : decode cX7_hasRoom 27 = .ok (.iload_n 1, 1) := by decide +kernel
theorem dX7_hasRoom_28 : decode cX7_hasRoom 28 = .ok (.iaload, 1) := by decide +kernel
theorem dX7_hasRoom_29 : decode cX7_hasRoom 29 = .ok (.bipush 60, 2) := by decide +kernel
theorem dX7_hasRoom_31 : decode cX7_hasRoom 31 = .ok (.if_icmp .ge 7, 3) := by decide +kernel
theorem dX7_hasRoom_34 : decode cX7_hasRoom 34 = .ok (.iconst 1, 1) := by decide +kernel
theorem dX7_hasRoom_35 : decode cX7_hasRoom 35 = .ok (.goto 25, 3) := by decide +kernel
theorem dX7_hasRoom_38 : decode cX7_hasRoom 38 = .ok (.iconst 0, 1) := by decide +kernel
theorem dX7_hasRoom_39 : decode cX7_hasRoom 39 = .ok (.goto 21, 3) := by decide +kernel
theorem dX7_hasRoom_42 : decode cX7_hasRoom 42 = .ok (.aload_n 0, 1) := by decide +kernel
theorem dX7_hasRoom_43 : decode cX7_hasRoom 43 = .ok (.getfield 11, 3) := by decide +kernel
theorem dX7_hasRoom_46 : decode cX7_hasRoom 46 = .ok (.iload_n 1, 1) := by decide +kernel
theorem dX7_hasRoom_47 : decode cX7_hasRoom 47 = .ok (.aaload, 1) := by decide +kernel
theorem dX7_hasRoom_48 : decode cX7_hasRoom 48 = .ok (.iload_n 2, 1) := by decide +kernel
theorem dX7_hasRoom_49 : decode cX7_hasRoom 49 = .ok (.invokevirtual 44, 3) := by decide +kernel
theorem dX7_hasRoom_52 : decode cX7_hasRoom 52 = .ok (.ifCond .ne 7, 3) := by decide +kernel
theorem dX7_hasRoom_55 : decode cX7_hasRoom 55 = .ok (.iconst 1, 1) := by decide +kernel
theorem dX7_hasRoom_56 : decode cX7_hasRoom 56 = .ok (.goto 4, 3) := by decide +kernel
theorem dX7_hasRoom_59 : decode cX7_hasRoom 59 = .ok (.iconst 0, 1) := by decide +kernel
theorem dX7_hasRoom_60 : decode cX7_hasRoom 60 = .ok (.ireturn, 1) := by decide +kernel
theorem dX7_addRow_0 : decode cX7_addRow 0 = .ok (.iload_n 2, 1) := by decide +kernel
theorem dX7_addRow_1 : decode cX7_addRow 1 = .ok (.istore 6, 2) := by decide +kernel
theorem dX7_addRow_3 : decode cX7_addRow 3 = .ok (.iload_n 1, 1) := by decide +kernel
theorem dX7_addRow_4 : decode cX7_addRow 4 = .ok (.invokestatic 40, 3) := by decide +kernel
theorem dX7_addRow_7 : decode cX7_addRow 7 = .ok (.ifCond .ne 21, 3) := by decide +kernel
theorem dX7_addRow_10 : decode cX7_addRow 10 = .ok (.aload_n 0, 1) := by decide +kernel
theorem dX7_addRow_11 : decode cX7_addRow 11 = .ok (.getfield 17, 3) := by decide +kernel
theorem dX7_addRow_14 : decode cX7_addRow 14 = .ok (.iload_n 1, 1) := by decide +kernel
theorem dX7_addRow_15 : decode cX7_addRow 15 = .ok (.iaload, 1) := by decide +kernel
theorem dX7_addRow_16 : decode cX7_addRow 16 = .ok (.istore 6, 2) := by decide +kernel
theorem dX7_addRow_18 : decode cX7_addRow 18 = .ok (.aload_n 0, 1) := by decide +kernel
theorem dX7_addRow_19 : decode cX7_addRow 19 = .ok (.getfield 17, 3) := by decide +kernel
theorem dX7_addRow_22 : decode cX7_addRow 22 = .ok (.iload_n 1, 1) := by decide +kernel
theorem dX7_addRow_23 : decode cX7_addRow 23 = .ok (.dup2, 1) := by decide +kernel
theorem dX7_addRow_24 : decode cX7_addRow 24 = .ok (.iaload, 1) := by decide +kernel
theorem dX7_addRow_25 : decode cX7_addRow 25 = .ok (.iconst 1, 1) := by decide +kernel
theorem dX7_addRow_26 : decode cX7_addRow 26 = .ok (.iadd, 1) := by decide +kernel
theorem dX7_addRow_27 : decode cX7_addRow 27 = .ok (.iastore, 1) := by decide +kernel
theorem dX7_addRow_28 : decode cX7_addRow 28 = .ok (.aload_n 0, 1) := by decide +kernel
theorem dX7_addRow_29 : decode cX7_addRow 29 = .ok (.getfield 11, 3) := by decide +kernel
theorem dX7_addRow_32 : decode cX7_addRow 32 = .ok (.iload_n 1, 1) := by decide +kernel
theorem dX7_addRow_33 : decode cX7_addRow 33 = .ok (.aaload, 1) := by decide +kernel
theorem dX7_addRow_34 : decode cX7_addRow 34 = .ok (.iload 6, 2) := by decide +kernel
theorem dX7_addRow_36 : decode cX7_addRow 36 = .ok (.invokevirtual 48, 3) := by decide +kernel
theorem dX7_addRow_39 : decode cX7_addRow 39 = .ok (.istore 7, 2) := by decide +kernel
theorem dX7_addRow_41 : decode cX7_addRow 41 = .ok (.aload_n 0, 1) := by decide +kernel
theorem dX7_addRow_42 : decode cX7_addRow 42 = .ok (.getfield 11, 3) := by decide +kernel
theorem dX7_addRow_45 : decode cX7_addRow 45 = .ok (.iload_n 1, 1) := by decide +kernel
theorem dX7_addRow_46 : decode cX7_addRow 46 = .ok (.aaload, 1) := by decide +kernel
theorem dX7_addRow_47 : decode cX7_addRow 47 = .ok (.iload 7, 2) := by decide +kernel
theorem dX7_addRow_49 : decode cX7_addRow 49 = .ok (.iconst 0, 1) := by decide +kernel
theorem dX7_addRow_50 : decode cX7_addRow 50 = .ok (.iload_n 2, 1) := by decide +kernel
theorem dX7_addRow_51 : decode cX7_addRow 51 = .ok (.invokevirtual 51, 3) := by decide +kernel
theorem dX7_addRow_54 : decode cX7_addRow 54 = .ok (.aload_n 0, 1) := by decide +kernel
theorem dX7_addRow_55 : decode cX7_addRow 55 = .ok (.getfield 11, 3) := by decide +kernel
theorem dX7_addRow_58 : decode cX7_addRow 58 = .ok (.iload_n 1, 1) := by decide +kernel
theorem dX7_addRow_59 : decode cX7_addRow 59 = .ok (.aaload, 1) := by decide +kernel
theorem dX7_addRow_60 : decode cX7_addRow 60 = .ok (.iload 7, 2) := by decide +kernel
theorem dX7_addRow_62 : decode cX7_addRow 62 = .ok (.iconst 1, 1) := by decide +kernel
theorem dX7_addRow_63 : decode cX7_addRow 63 = .ok (.aload_n 0, 1) := by decide +kernel
theorem dX7_addRow_64 : decode cX7_addRow 64 = .ok (.iload_n 1, 1) := by decide +kernel
theorem dX7_addRow_65 : decode cX7_addRow 65 = .ok (.iload_n 3, 1) := by decide +kernel
theorem dX7_addRow_66 : decode cX7_addRow 66 = .ok (.invokevirtual 55, 3) := by decide +kernel
theorem dX7_addRow_69 : decode cX7_addRow 69 = .ok (.invokevirtual 51, 3) := by decide +kernel
theorem dX7_addRow_72 : decode cX7_addRow 72 = .ok (.aload_n 0, 1) := by decide +kernel
theorem dX7_addRow_73 : decode cX7_addRow 73 = .ok (.getfield 11, 3) := by decide +kernel
theorem dX7_addRow_76 : decode cX7_addRow 76 = .ok (.iload_n 1, 1) := by decide +kernel
theorem dX7_addRow_77 : decode cX7_addRow 77 = .ok (.aaload, 1) := by decide +kernel
theorem dX7_addRow_78 : decode cX7_addRow 78 = .ok (.iload 7, 2) := by decide +kernel
theorem dX7_addRow_80 : decode cX7_addRow 80 = .ok (.iconst 2, 1) := by decide +kernel
theorem dX7_addRow_81 : decode cX7_addRow 81 = .ok (.iload 4, 2) := by decide +kernel
theorem dX7_addRow_83 : decode cX7_addRow 83 = .ok (.invokevirtual 51, 3) := by decide +kernel
theorem dX7_addRow_86 : decode cX7_addRow 86 = .ok (.aload_n 0, 1) := by decide +kernel
theorem dX7_addRow_87 : decode cX7_addRow 87 = .ok (.getfield 11, 3) := by decide +kernel
theorem dX7_addRow_90 : decode cX7_addRow 90 = .ok (.iload_n 1, 1) := by decide +kernel
theorem dX7_addRow_91 : decode cX7_addRow 91 = .ok (.aaload, 1) := by decide +kernel
theorem dX7_addRow_92 : decode cX7_addRow 92 = .ok (.iload 7, 2) := by decide +kernel
theorem dX7_addRow_94 : decode cX7_addRow 94 = .ok (.iconst 3, 1) := by decide +kernel
theorem dX7_addRow_95 : decode cX7_addRow 95 = .ok (.iload 5, 2) := by decide +kernel
theorem dX7_addRow_97 : decode cX7_addRow 97 = .ok (.invokevirtual 51, 3) := by decide +kernel
theorem dX7_addRow_100 : decode cX7_addRow 100 = .ok (.aload_n 0, 1) := by decide +kernel
theorem dX7_addRow_101 : decode cX7_addRow 101 = .ok (.iload_n 1, 1) := by decide +kernel
theorem dX7_addRow_102 : decode cX7_addRow 102 = .ok (.invokevirtual 59, 3) := by decide +kernel
theorem dX7_addRow_105 : decode cX7_addRow 105 = .ok (.iload 6, 2) := by decide +kernel
theorem dX7_addRow_107 : decode cX7_addRow 107 = .ok (.ireturn, 1) := by decide +kernel
theorem dX7_changeCell_0 : decode cX7_changeCell 0 = .ok (.aload_n 0, 1) := by decide +kernel
theorem dX7_changeCell_1 : decode cX7_changeCell 1 = .ok (.getfield 11, 3) := by decide +kernel
theorem dX7_changeCell_4 : decode cX7_changeCell 4 = .ok (.iload_n 1, 1) := by decide +kernel
theorem dX7_changeCell_5 : decode cX7_changeCell 5 = .ok (.aaload, 1) := by decide +kernel
theorem dX7_changeCell_6 : decode cX7_changeCell 6 = .ok (.iload_n 2, 1) := by decide +kernel
theorem dX7_changeCell_7 : decode cX7_changeCell 7 = .ok (.invokevirtual 63, 3) := by decide +kernel
theorem dX7_changeCell_10 : decode cX7_changeCell 10 = .ok (.istore 5, 2) := by decide +kernel
theorem dX7_changeCell_12 : decode cX7_changeCell 12 = .ok (.aload_n 0, 1) := by decide +kernel
theorem dX7_changeCell_13 : decode cX7_changeCell 13 = .ok (.getfield 11, 3) := by decide +kernel
theorem dX7_changeCell_16 : decode cX7_changeCell 16 = .ok (.iload_n 1, 1) := by decide +kernel
theorem dX7_changeCell_17 : decode cX7_changeCell 17 = .ok (.aaload, 1) := by decide +kernel
theorem dX7_changeCell_18 : decode cX7_changeCell 18 = .ok (.iload 5, 2) := by decide +kernel
theorem dX7_changeCell_20 : decode cX7_changeCell 20 = .ok (.iload_n 3, 1) := by decide +kernel
theorem dX7_changeCell_21 : decode cX7_changeCell 21 = .ok (.invokevirtual 66, 3) := by decide +kernel
theorem dX7_changeCell_24 : decode cX7_changeCell 24 = .ok (.istore 6, 2) := by decide +kernel
theorem dX7_changeCell_26 : decode cX7_changeCell 26 = .ok (.aload_n 0, 1) := by decide +kernel
theorem dX7_changeCell_27 : decode cX7_changeCell 27 = .ok (.getfield 11, 3) := by decide +kernel
theorem dX7_changeCell_30 : decode cX7_changeCell 30 = .ok (.iload_n 1, 1) := by decide +kernel
theorem dX7_changeCell_31 : decode cX7_changeCell 31 = .ok (.aaload, 1) := by decide +kernel
theorem dX7_changeCell_32 : decode cX7_changeCell 32 = .ok (.iload 5, 2) := by decide +kernel
theorem dX7_changeCell_34 : decode cX7_changeCell 34 = .ok (.iload_n 3, 1) := by decide +kernel
theorem dX7_changeCell_35 : decode cX7_changeCell 35 = .ok (.aload_n 0, 1) := by decide +kernel
theorem dX7_changeCell_36 : decode cX7_changeCell 36 = .ok (.iload_n 1, 1) := by decide +kernel
theorem dX7_changeCell_37 : decode cX7_changeCell 37 = .ok (.iload 4, 2) := by decide +kernel
theorem dX7_changeCell_39 : decode cX7_changeCell 39 = .ok (.invokevirtual 55, 3) := by decide +kernel
theorem dX7_changeCell_42 : decode cX7_changeCell 42 = .ok (.invokevirtual 51, 3) := by decide +kernel
theorem dX7_changeCell_45 : decode cX7_changeCell 45 = .ok (.aload_n 0, 1) := by decide +kernel
theorem dX7_changeCell_46 : decode cX7_changeCell 46 = .ok (.iload_n 1, 1) := by decide +kernel
theorem dX7_changeCell_47 : decode cX7_changeCell 47 = .ok (.invokevirtual 59, 3) := by decide +kernel
theorem dX7_changeCell_50 : decode cX7_changeCell 50 = .ok (.iload 6, 2) := by decide +kernel
theorem dX7_changeCell_52 : decode cX7_changeCell 52 = .ok (.ireturn, 1) := by decide +kernel
theorem dX7_removeRow_0 : decode cX7_removeRow 0 = .ok (.aload_n 0, 1) := by decide +kernel
theorem dX7_removeRow_1 : decode cX7_removeRow 1 = .ok (.getfield 11, 3) := by decide +kernel
theorem dX7_removeRow_4 : decode cX7_removeRow 4 = .ok (.iload_n 1, 1) := by decide +kernel
theorem dX7_removeRow_5 : decode cX7_removeRow 5 = .ok (.aaload, 1) := by decide +kernel
theorem dX7_removeRow_6 : decode cX7_removeRow 6 = .ok (.aload_n 0, 1) := by decide +kernel
theorem dX7_removeRow_7 : decode cX7_removeRow 7 = .ok (.getfield 11, 3) := by decide +kernel
theorem dX7_removeRow_10 : decode cX7_removeRow 10 = .ok (.iload_n 1, 1) := by decide +kernel
theorem dX7_removeRow_11 : decode cX7_removeRow 11 = .ok (.aaload, 1) := by decide +kernel
theorem dX7_removeRow_12 : decode cX7_removeRow 12 = .ok (.iload_n 2, 1) := by decide +kernel
theorem dX7_removeRow_13 : decode cX7_removeRow 13 = .ok (.invokevirtual 63, 3) := by decide +kernel
theorem dX7_removeRow_16 : decode cX7_removeRow 16 = .ok (.invokevirtual 69, 3) := by decide +kernel
theorem dX7_removeRow_19 : decode cX7_removeRow 19 = .ok (.aload_n 0, 1) := by decide +kernel
theorem dX7_removeRow_20 : decode cX7_removeRow 20 = .ok (.iload_n 1, 1) := by decide +kernel
theorem dX7_removeRow_21 : decode cX7_removeRow 21 = .ok (.invokevirtual 59, 3) := by decide +kernel
theorem dX7_removeRow_24 : decode cX7_removeRow 24 = .ok (.return_, 1) := by decide +kernel
theorem dX7_bringBack_0 : decode cX7_bringBack 0 = .ok (.aload_n 0, 1) := by decide +kernel
theorem dX7_bringBack_1 : decode cX7_bringBack 1 = .ok (.getfield 11, 3) := by decide +kernel
theorem dX7_bringBack_4 : decode cX7_bringBack 4 = .ok (.iload_n 1, 1) := by decide +kernel
theorem dX7_bringBack_5 : decode cX7_bringBack 5 = .ok (.aaload, 1) := by decide +kernel
theorem dX7_bringBack_6 : decode cX7_bringBack 6 = .ok (.aload_n 2, 1) := by decide +kernel
theorem dX7_bringBack_7 : decode cX7_bringBack 7 = .ok (.iconst 0, 1) := by decide +kernel
theorem dX7_bringBack_8 : decode cX7_bringBack 8 = .ok (.invokevirtual 72, 3) := by decide +kernel
theorem dX7_bringBack_11 : decode cX7_bringBack 11 = .ok (.aload_n 0, 1) := by decide +kernel
theorem dX7_bringBack_12 : decode cX7_bringBack 12 = .ok (.iload_n 1, 1) := by decide +kernel
theorem dX7_bringBack_13 : decode cX7_bringBack 13 = .ok (.invokevirtual 59, 3) := by decide +kernel
theorem dX7_bringBack_16 : decode cX7_bringBack 16 = .ok (.return_, 1) := by decide +kernel
theorem dX7_write_0 : decode cX7_write 0 = .ok (.aload_n 0, 1) := by decide +kernel
theorem dX7_write_1 : decode cX7_write 1 = .ok (.getfield 27, 3) := by decide +kernel
theorem dX7_write_4 : decode cX7_write 4 = .ok (.dup, 1) := by decide +kernel
theorem dX7_write_5 : decode cX7_write 5 = .ok (.getfield 76, 3) := by decide +kernel
theorem dX7_write_8 : decode cX7_write 8 = .ok (.iconst 1, 1) := by decide +kernel
theorem dX7_write_9 : decode cX7_write 9 = .ok (.iadd, 1) := by decide +kernel
theorem dX7_write_10 : decode cX7_write 10 = .ok (.putfield 76, 3) := by decide +kernel
theorem dX7_write_13 : decode cX7_write 13 = .ok (.aload_n 0, 1) := by decide +kernel
theorem dX7_write_14 : decode cX7_write 14 = .ok (.getfield 24, 3) := by decide +kernel
theorem dX7_write_17 : decode cX7_write 17 = .ok (.iload_n 1, 1) := by decide +kernel
theorem dX7_write_18 : decode cX7_write 18 = .ok (.aload_n 0, 1) := by decide +kernel
theorem dX7_write_19 : decode cX7_write 19 = .ok (.getfield 27, 3) := by decide +kernel
theorem dX7_write_22 : decode cX7_write 22 = .ok (.getfield 76, 3) := by decide +kernel
theorem dX7_write_25 : decode cX7_write 25 = .ok (.iastore, 1) := by decide +kernel
theorem dX7_write_26 : decode cX7_write 26 = .ok (.aload_n 0, 1) := by decide +kernel
theorem dX7_write_27 : decode cX7_write 27 = .ok (.getfield 31, 3) := by decide +kernel
theorem dX7_write_30 : decode cX7_write 30 = .ok (.iload_n 1, 1) := by decide +kernel
theorem dX7_write_31 : decode cX7_write 31 = .ok (.invokevirtual 81, 3) := by decide +kernel
theorem dX7_write_34 : decode cX7_write 34 = .ok (.aload_n 0, 1) := by decide +kernel
theorem dX7_write_35 : decode cX7_write 35 = .ok (.getfield 31, 3) := by decide +kernel
theorem dX7_write_38 : decode cX7_write 38 = .ok (.invokevirtual 86, 3) := by decide +kernel
theorem dX7_write_41 : decode cX7_write 41 = .ok (.return_, 1) := by decide +kernel
theorem dX7_asStored_0 : decode cX7_asStored 0 = .ok (.iload_n 1, 1) := by decide +kernel
theorem dX7_asStored_1 : decode cX7_asStored 1 = .ok (.invokestatic 40, 3) := by decide +kernel
theorem dX7_asStored_4 : decode cX7_asStored 4 = .ok (.iconst 1, 1) := by decide +kernel
theorem dX7_asStored_5 : decode cX7_asStored 5 = .ok (.if_icmp .ne 10, 3) := by decide +kernel
theorem dX7_asStored_8 : decode cX7_asStored 8 = .ok (.iload_n 2, 1) := by decide +kernel
theorem dX7_asStored_9 : decode cX7_asStored 9 = .ok (.invokestatic 89, 3) := by decide +kernel
theorem dX7_asStored_12 : decode cX7_asStored 12 = .ok (.ifCond .ne 5, 3) := by decide +kernel
theorem dX7_asStored_15 : decode cX7_asStored 15 = .ok (.iload_n 2, 1) := by decide +kernel
theorem dX7_asStored_16 : decode cX7_asStored 16 = .ok (.ireturn, 1) := by decide +kernel
theorem dX7_asStored_17 : decode cX7_asStored 17 = .ok (.iconst 0, 1) := by decide +kernel
theorem dX7_asStored_18 : decode cX7_asStored 18 = .ok (.bipush 99, 2) := by decide +kernel
theorem dX7_asStored_20 : decode cX7_asStored 20 = .ok (.iload_n 2, 1) := by decide +kernel
theorem dX7_asStored_21 : decode cX7_asStored 21 = .ok (.invokestatic 92, 3) := by decide +kernel
theorem dX7_asStored_24 : decode cX7_asStored 24 = .ok (.invokestatic 97, 3) := by decide +kernel
theorem dX7_asStored_27 : decode cX7_asStored 27 = .ok (.istore_n 3, 1) := by decide +kernel
theorem dX7_asStored_28 : decode cX7_asStored 28 = .ok (.iload_n 3, 1) := by decide +kernel
theorem dX7_asStored_29 : decode cX7_asStored 29 = .ok (.iload_n 2, 1) := by decide +kernel
theorem dX7_asStored_30 : decode cX7_asStored 30 = .ok (.if_icmp .eq 13, 3) := by decide +kernel
theorem dX7_asStored_33 : decode cX7_asStored 33 = .ok (.aload_n 0, 1) := by decide +kernel
theorem dX7_asStored_34 : decode cX7_asStored 34 = .ok (.dup, 1) := by decide +kernel
theorem dX7_asStored_35 : decode cX7_asStored 35 = .ok (.getfield 100, 3) := by decide +kernel
theorem dX7_asStored_38 : decode cX7_asStored 38 = .ok (.iconst 1, 1) := by decide +kernel
theorem dX7_asStored_39 : decode cX7_asStored 39 = .ok (.iadd, 1) := by decide +kernel
theorem dX7_asStored_40 : decode cX7_asStored 40 = .ok (.putfield 100, 3) := by decide +kernel
theorem dX7_asStored_43 : decode cX7_asStored 43 = .ok (.iload_n 3, 1) := by decide +kernel
theorem dX7_asStored_44 : decode cX7_asStored 44 = .ok (.ireturn, 1) := by decide +kernel
theorem dX8_init_0 : decode cX8_init 0 = .ok (.aload_n 0, 1) := by decide +kernel
theorem dX8_init_1 : decode cX8_init 1 = .ok (.invokespecial 3, 3) := by decide +kernel
theorem dX8_init_4 : decode cX8_init 4 = .ok (.aload_n 0, 1) := by decide +kernel
theorem dX8_init_5 : decode cX8_init 5 = .ok (.iconst 3, 1) := by decide +kernel
theorem dX8_init_6 : decode cX8_init 6 = .ok (.newarray .int, 2) := by decide +kernel
theorem dX8_init_8 : decode cX8_init 8 = .ok (.putfield 9, 3) := by decide +kernel
theorem dX8_init_11 : decode cX8_init 11 = .ok (.aload_n 0, 1) := by decide +kernel
theorem dX8_init_12 : decode cX8_init 12 = .ok (.iconst 3, 1) := by decide +kernel
theorem dX8_init_13 : decode cX8_init 13 = .ok (.newarray .int, 2) := by decide +kernel
theorem dX8_init_15 : decode cX8_init 15 = .ok (.putfield 15, 3) := by decide +kernel
theorem dX8_init_18 : decode cX8_init 18 = .ok (.aload_n 0, 1) := by decide +kernel
theorem dX8_init_19 : decode cX8_init 19 = .ok (.iconst 3, 1) := by decide +kernel
theorem dX8_init_20 : decode cX8_init 20 = .ok (.newarray .int, 2) := by decide +kernel
theorem dX8_init_22 : decode cX8_init 22 = .ok (.putfield 18, 3) := by decide +kernel
theorem dX8_init_25 : decode cX8_init 25 = .ok (.aload_n 0, 1) := by decide +kernel
theorem dX8_init_26 : decode cX8_init 26 = .ok (.iconst 3, 1) := by decide +kernel
theorem dX8_init_27 : decode cX8_init 27 = .ok (.newarray .int, 2) := by decide +kernel
theorem dX8_init_29 : decode cX8_init 29 = .ok (.putfield 21, 3) := by decide +kernel
theorem dX8_init_32 : decode cX8_init 32 = .ok (.aload_n 0, 1) := by decide +kernel
theorem dX8_init_33 : decode cX8_init 33 = .ok (.iconst 3, 1) := by decide +kernel
theorem dX8_init_34 : decode cX8_init 34 = .ok (.newarray .boolean, 2) := by decide +kernel
theorem dX8_init_36 : decode cX8_init 36 = .ok (.putfield 24, 3) := by decide +kernel
theorem dX8_init_39 : decode cX8_init 39 = .ok (.aload_n 0, 1) := by decide +kernel
theorem dX8_init_40 : decode cX8_init 40 = .ok (.bipush 18, 2) := by decide +kernel
theorem dX8_init_42 : decode cX8_init 42 = .ok (.newarray .boolean, 2) := by decide +kernel
theorem dX8_init_44 : decode cX8_init 44 = .ok (.putfield 28, 3) := by decide +kernel
theorem dX8_init_47 : decode cX8_init 47 = .ok (.aload_n 0, 1) := by decide +kernel
theorem dX8_init_48 : decode cX8_init 48 = .ok (.iconst 3, 1) := by decide +kernel
theorem dX8_init_49 : decode cX8_init 49 = .ok (.newarray .int, 2) := by decide +kernel
theorem dX8_init_51 : decode cX8_init 51 = .ok (.putfield 31, 3) := by decide +kernel
theorem dX8_init_54 : decode cX8_init 54 = .ok (.aload_n 0, 1) := by decide +kernel
theorem dX8_init_55 : decode cX8_init 55 = .ok (.iconst 3, 1) := by decide +kernel
theorem dX8_init_56 : decode cX8_init 56 = .ok (.newarray .int, 2) := by decide +kernel
theorem dX8_init_58 : decode cX8_init 58 = .ok (.putfield 34, 3) := by decide +kernel
theorem dX8_init_61 : decode cX8_init 61 = .ok (.aload_n 0, 1) := by decide +kernel
theorem dX8_init_62 : decode cX8_init 62 = .ok (.aload_n 1, 1) := by decide +kernel
theorem dX8_init_63 : decode cX8_init 63 = .ok (.putfield 37, 3) := by decide +kernel
theorem dX8_init_66 : decode cX8_init 66 = .ok (.aload_n 0, 1) := by decide +kernel
theorem dX8_init_67 : decode cX8_init 67 = .ok (.aload_n 2, 1) := by decide +kernel
theorem dX8_init_68 : decode cX8_init 68 = .ok (.putfield 41, 3) := by decide +kernel
theorem dX8_init_71 : decode cX8_init 71 = .ok (.iconst 0, 1) := by decide +kernel
theorem dX8_init_72 : decode cX8_init 72 = .ok (.istore_n 3, 1) := by decide +kernel
theorem dX8_init_73 : decode cX8_init 73 = .ok (.iload_n 3, 1) := by decide +kernel
theorem dX8_init_74 : decode cX8_init 74 = .ok (.iconst 3, 1) := by decide +kernel
theorem dX8_init_75 : decode cX8_init 75 = .ok (.if_icmp .ge 32, 3) := by decide +kernel
theorem dX8_init_78 : decode cX8_init 78 = .ok (.aload_n 0, 1) := by decide +kernel
theorem dX8_init_79 : decode cX8_init 79 = .ok (.getfield 9, 3) := by decide +kernel
theorem dX8_init_82 : decode cX8_init 82 = .ok (.iload_n 3, 1) := by decide +kernel
theorem dX8_init_83 : decode cX8_init 83 = .ok (.iconst 1, 1) := by decide +kernel
theorem dX8_init_84 : decode cX8_init 84 = .ok (.iastore, 1) := by decide +kernel
theorem dX8_init_85 : decode cX8_init 85 = .ok (.aload_n 0, 1) := by decide +kernel
theorem dX8_init_86 : decode cX8_init 86 = .ok (.getfield 15, 3) := by decide +kernel
theorem dX8_init_89 : decode cX8_init 89 = .ok (.iload_n 3, 1) := by decide +kernel
theorem dX8_init_90 : decode cX8_init 90 = .ok (.bipush 20, 2) := by decide +kernel
theorem dX8_init_92 : decode cX8_init 92 = .ok (.iastore, 1) := by decide +kernel
theorem dX8_init_93 : decode cX8_init 93 = .ok (.aload_n 0, 1) := by decide +kernel
theorem dX8_init_94 : decode cX8_init 94 = .ok (.getfield 18, 3) := by decide +kernel
theorem dX8_init_97 : decode cX8_init 97 = .ok (.iload_n 3, 1) := by decide +kernel
theorem dX8_init_98 : decode cX8_init 98 = .ok (.bipush 12, 2) := by decide +kernel
theorem dX8_init_100 : decode cX8_init 100 = .ok (.iastore, 1) := by decide +kernel
theorem dX8_init_101 : decode cX8_init 101 = .ok (.iinc 3 1, 3) := by decide +kernel
theorem dX8_init_104 : decode cX8_init 104 = .ok (.goto (-31), 3) := by decide +kernel
theorem dX8_init_107 : decode cX8_init 107 = .ok (.return_, 1) := by decide +kernel
theorem dX8_goOnTo_0 : decode cX8_goOnTo 0 = .ok (.aload_n 0, 1) := by decide +kernel
theorem dX8_goOnTo_1 : decode cX8_goOnTo 1 = .ok (.getfield 37, 3) := by decide +kernel
theorem dX8_goOnTo_4 : decode cX8_goOnTo 4 = .ok (.iload_n 1, 1) := by decide +kernel
theorem dX8_goOnTo_5 : decode cX8_goOnTo 5 = .ok (.putfield 45, 3) := by decide +kernel
theorem dX8_goOnTo_8 : decode cX8_goOnTo 8 = .ok (.aload_n 0, 1) := by decide +kernel
theorem dX8_goOnTo_9 : decode cX8_goOnTo 9 = .ok (.getfield 41, 3) := by decide +kernel
theorem dX8_goOnTo_12 : decode cX8_goOnTo 12 = .ok (.invokevirtual 51, 3) := by decide +kernel
theorem dX8_goOnTo_15 : decode cX8_goOnTo 15 = .ok (.return_, 1) := by decide +kernel
theorem dX8_awaitQuota_0 : decode cX8_awaitQuota 0 = .ok (.aload_n 0, 1) := by decide +kernel
theorem dX8_awaitQuota_1 : decode cX8_awaitQuota 1 = .ok (.getfield 37, 3) := by decide +kernel
theorem dX8_awaitQuota_4 : decode cX8_awaitQuota 4 = .ok (.getfield 45, 3) := by decide +kernel
theorem dX8_awaitQuota_7 : decode cX8_awaitQuota 7 = .ok (.bipush 10, 2) := by decide +kernel
theorem dX8_awaitQuota_9 : decode cX8_awaitQuota 9 = .ok (.idiv, 1) := by decide +kernel
theorem dX8_awaitQuota_10 : decode cX8_awaitQuota 10 = .ok (.istore_n 2, 1) := by decide +kernel
theorem dX8_awaitQuota_11 : decode cX8_awaitQuota 11 = .ok (.aload_n 0, 1) := by decide +kernel
theorem dX8_awaitQuota_12 : decode cX8_awaitQuota 12 = .ok (.getfield 31, 3) := by decide +kernel
theorem dX8_awaitQuota_15 : decode cX8_awaitQuota 15 = .ok (.iload_n 1, 1) := by decide +kernel
theorem dX8_awaitQuota_16 : decode cX8_awaitQuota 16 = .ok (.iaload, 1) := by decide +kernel
theorem dX8_awaitQuota_17 : decode cX8_awaitQuota 17 = .ok (.iload_n 2, 1) := by decide +kernel
theorem dX8_awaitQuota_18 : decode cX8_awaitQuota 18 = .ok (.if_icmp .ne 28, 3) := by decide +kernel
theorem dX8_awaitQuota_21 : decode cX8_awaitQuota 21 = .ok (.aload_n 0, 1) := by decide +kernel
theorem dX8_awaitQuota_22 : decode cX8_awaitQuota 22 = .ok (.getfield 34, 3) := by decide +kernel
theorem dX8_awaitQuota_25 : decode cX8_awaitQuota 25 = .ok (.iload_n 1, 1) := by decide +kernel
theorem dX8_awaitQuota_26 : decode cX8_awaitQuota 26 = .ok (.iaload, 1) := by decide +kernel
theorem dX8_awaitQuota_27 : decode cX8_awaitQuota 27 = .ok (.aload_n 0, 1) := by decide +kernel
theorem dX8_awaitQuota_28 : decode cX8_awaitQuota 28 = .ok (.getfield 15, 3) := by decide +kernel
theorem dX8_awaitQuota_31 : decode cX8_awaitQuota 31 = .ok (.iload_n 1, 1) := by decide +kernel
theorem dX8_awaitQuota_32 : decode cX8_awaitQuota 32 = .ok (.iaload, 1) := by decide +kernel
theorem dX8_awaitQuota_33 : decode cX8_awaitQuota 33 = .ok (.if_icmp .lt 13, 3) := by decide +kernel
theorem dX8_awaitQuota_36 : decode cX8_awaitQuota 36 = .ok (.aload_n 0, 1) := by decide +kernel
theorem dX8_awaitQuota_37 : decode cX8_awaitQuota 37 = .ok (.iload_n 2, 1) := by decide +kernel
theorem dX8_awaitQuota_38 : decode cX8_awaitQuota 38 = .ok (.iconst 1, 1) := by decide +kernel
theorem dX8_awaitQuota_39 : decode cX8_awaitQuota 39 = .ok (.iadd, 1) := by decide +kernel
theorem dX8_awaitQuota_40 : decode cX8_awaitQuota 40 = .ok (.bipush 10, 2) := by decide +kernel
theorem dX8_awaitQuota_42 : decode cX8_awaitQuota 42 = .ok (.imul, 1) := by decide +kernel
theorem dX8_awaitQuota_43 : decode cX8_awaitQuota 43 = .ok (.invokevirtual 56, 3) := by decide +kernel
theorem dX8_awaitQuota_46 : decode cX8_awaitQuota 46 = .ok (.return_, 1) := by decide +kernel
theorem dX8_attempt_0 : decode cX8_attempt 0 = .ok (.aload_n 0, 1) := by decide +kernel
theorem dX8_attempt_1 : decode cX8_attempt 1 = .ok (.getfield 37, 3) := by decide +kernel
theorem dX8_attempt_4 : decode cX8_attempt 4 = .ok (.getfield 45, 3) := by decide +kernel
theorem dX8_attempt_7 : decode cX8_attempt 7 = .ok (.bipush 10, 2) := by decide +kernel
theorem dX8_attempt_9 : decode cX8_attempt 9 = .ok (.idiv, 1) := by decide +kernel
theorem dX8_attempt_10 : decode cX8_attempt 10 = .ok (.istore_n 2, 1) := by decide +kernel
theorem dX8_attempt_11 : decode cX8_attempt 11 = .ok (.aload_n 0, 1) := by decide +kernel
theorem dX8_attempt_12 : decode cX8_attempt 12 = .ok (.getfield 31, 3) := by decide +kernel
theorem dX8_attempt_15 : decode cX8_attempt 15 = .ok (.iload_n 1, 1) := by decide +kernel
theorem dX8_attempt_16 : decode cX8_attempt 16 = .ok (.iaload, 1) := by decide +kernel
theorem dX8_attempt_17 : decode cX8_attempt 17 = .ok (.iload_n 2, 1) := by decide +kernel
theorem dX8_attempt_18 : decode cX8_attempt 18 = .ok (.if_icmp .eq 17, 3) := by decide +kernel
theorem dX8_attempt_21 : decode cX8_attempt 21 = .ok (.aload_n 0, 1) := by decide +kernel
theorem dX8_attempt_22 : decode cX8_attempt 22 = .ok (.getfield 31, 3) := by decide +kernel
theorem dX8_attempt_25 : decode cX8_attempt 25 = .ok (.iload_n 1, 1) := by decide +kernel
theorem dX8_attempt_26 : decode cX8_attempt 26 = .ok (.iload_n 2, 1) := by decide +kernel
theorem dX8_attempt_27 : decode cX8_attempt 27 = .ok (.iastore, 1) := by decide +kernel
theorem dX8_attempt_28 : decode cX8_attempt 28 = .ok (.aload_n 0, 1) := by decide +kernel
theorem dX8_attempt_29 : decode cX8_attempt 29 = .ok (.getfield 34, 3) := by decide +kernel
theorem dX8_attempt_32 : decode cX8_attempt 32 = .ok (.iload_n 1, 1) := by decide +kernel
theorem dX8_attempt_33 : decode cX8_attempt 33 = .ok (.iconst 0, 1) := by decide +kernel
theorem dX8_attempt_34 : decode cX8_attempt 34 = .ok (.iastore, 1) := by decide +kernel
theorem dX8_attempt_35 : decode cX8_attempt 35 = .ok (.aload_n 0, 1) := by decide +kernel
theorem dX8_attempt_36 : decode cX8_attempt 36 = .ok (.getfield 34, 3) := by decide +kernel
theorem dX8_attempt_39 : decode cX8_attempt 39 = .ok (.iload_n 1, 1) := by decide +kernel
theorem dX8_attempt_40 : decode cX8_attempt 40 = .ok (.dup2, 1) := by decide +kernel
theorem dX8_attempt_41 : decode cX8_attempt 41 = .ok (.iaload, 1) := by decide +kernel
theorem dX8_attempt_42 : decode cX8_attempt 42 = .ok (.iconst 1, 1) := by decide +kernel
theorem dX8_attempt_43 : decode cX8_attempt 43 = .ok (.iadd, 1) := by decide +kernel
theorem dX8_attempt_44 : decode cX8_attempt 44 = .ok (.iastore, 1) := by decide +kernel
theorem dX8_attempt_45 : decode cX8_attempt 45 = .ok (.aload_n 0, 1) := by decide +kernel
theorem dX8_attempt_46 : decode cX8_attempt 46 = .ok (.aload_n 0, 1) := by decide +kernel
theorem dX8_attempt_47 : decode cX8_attempt 47 = .ok (.getfield 37, 3) := by decide +kernel
theorem dX8_attempt_50 : decode cX8_attempt 50 = .ok (.getfield 45, 3) := by decide +kernel
theorem dX8_attempt_53 : decode cX8_attempt 53 = .ok (.aload_n 0, 1) := by decide +kernel
theorem dX8_attempt_54 : decode cX8_attempt 54 = .ok (.getfield 9, 3) := by decide +kernel
theorem dX8_attempt_57 : decode cX8_attempt 57 = .ok (.iload_n 1, 1) := by decide +kernel
theorem dX8_attempt_58 : decode cX8_attempt 58 = .ok (.iaload, 1) := by decide +kernel
theorem dX8_attempt_59 : decode cX8_attempt 59 = .ok (.iadd, 1) := by decide +kernel
theorem dX8_attempt_60 : decode cX8_attempt 60 = .ok (.invokevirtual 56, 3) := by decide +kernel
theorem dX8_attempt_63 : decode cX8_attempt 63 = .ok (.aload_n 0, 1) := by decide +kernel
theorem dX8_attempt_64 : decode cX8_attempt 64 = .ok (.getfield 21, 3) := by decide +kernel
theorem dX8_attempt_67 : decode cX8_attempt 67 = .ok (.iload_n 1, 1) := by decide +kernel
theorem dX8_attempt_68 : decode cX8_attempt 68 = .ok (.iaload, 1) := by decide +kernel
theorem dX8_attempt_69 : decode cX8_attempt 69 = .ok (.ifCond .le 15, 3) := by decide +kernel
theorem dX8_attempt_72 : decode cX8_attempt 72 = .ok (.aload_n 0, 1) := by decide +kernel
theorem dX8_attempt_73 : decode cX8_attempt 73 = .ok (.getfield 21, 3) := by decide +kernel
theorem dX8_attempt_76 : decode cX8_attempt 76 = .ok (.iload_n 1, 1) := by decide +kernel
theorem dX8_attempt_77 : decode cX8_attempt 77 = .ok (.dup2, 1) := by decide +kernel
theorem dX8_attempt_78 : decode cX8_attempt 78 = .ok (.iaload, 1) := by decide +kernel
theorem dX8_attempt_79 : decode cX8_attempt 79 = .ok (.iconst 1, 1) := by decide +kernel
theorem dX8_attempt_80 : decode cX8_attempt 80 = .ok (.isub, 1) := by decide +kernel
theorem dX8_attempt_81 : decode cX8_attempt 81 = .ok (.iastore, 1) := by decide +kernel
theorem dX8_attempt_82 : decode cX8_attempt 82 = .ok (.iconst 0, 1) := by decide +kernel
theorem dX8_attempt_83 : decode cX8_attempt 83 = .ok (.ireturn, 1) := by decide +kernel
theorem dX8_attempt_84 : decode cX8_attempt 84 = .ok (.iconst 1, 1) := by decide +kernel
theorem dX8_attempt_85 : decode cX8_attempt 85 = .ok (.ireturn, 1) := by decide +kernel
theorem dX9_init_0 : decode cX9_init 0 = .ok (.aload_n 0, 1) := by decide +kernel
theorem dX9_init_1 : decode cX9_init 1 = .ok (.invokespecial 1, 3) := by decide +kernel
theorem dX9_init_4 : decode cX9_init 4 = .ok (.return_, 1) := by decide +kernel
theorem dX10_init_0 : decode cX10_init 0 = .ok (.aload_n 0, 1) := by decide +kernel
theorem dX10_init_1 : decode cX10_init 1 = .ok (.invokespecial 1, 3) := by decide +kernel
theorem dX10_init_4 : decode cX10_init 4 = .ok (.aload_n 0, 1) := by decide +kernel
theorem dX10_init_5 : decode cX10_init 5 = .ok (.new 7, 3) := by decide +kernel
theorem dX10_init_8 : decode cX10_init 8 = .ok (.dup, 1) := by decide +kernel
theorem dX10_init_9 : decode cX10_init 9 = .ok (.invokespecial 9, 3) := by decide +kernel
theorem dX10_init_12 : decode cX10_init 12 = .ok (.putfield 10, 3) := by decide +kernel
theorem dX10_init_15 : decode cX10_init 15 = .ok (.aload_n 0, 1) := by decide +kernel
theorem dX10_init_16 : decode cX10_init 16 = .ok (.new 16, 3) := by decide +kernel
theorem dX10_init_19 : decode cX10_init 19 = .ok (.dup, 1) := by decide +kernel
theorem dX10_init_20 : decode cX10_init 20 = .ok (.aload_n 0, 1) := by decide +kernel
theorem dX10_init_21 : decode cX10_init 21 = .ok (.getfield 10, 3) := by decide +kernel
theorem dX10_init_24 : decode cX10_init 24 = .ok (.invokespecial 18, 3) := by decide +kernel
theorem dX10_init_27 : decode cX10_init 27 = .ok (.putfield 21, 3) := by decide +kernel
theorem dX10_init_30 : decode cX10_init 30 = .ok (.aload_n 0, 1) := by decide +kernel
theorem dX10_init_31 : decode cX10_init 31 = .ok (.new 25, 3) := by decide +kernel
theorem dX10_init_34 : decode cX10_init 34 = .ok (.dup, 1) := by decide +kernel
theorem dX10_init_35 : decode cX10_init 35 = .ok (.aload_n 0, 1) := by decide +kernel
theorem dX10_init_36 : decode cX10_init 36 = .ok (.getfield 10, 3) := by decide +kernel
theorem dX10_init_39 : decode cX10_init 39 = .ok (.aload_n 0, 1) := by decide +kernel
theorem dX10_init_40 : decode cX10_init 40 = .ok (.getfield 21, 3) := by decide +kernel
theorem dX10_init_43 : decode cX10_init 43 = .ok (.invokespecial 27, 3) := by decide +kernel
theorem dX10_init_46 : decode cX10_init 46 = .ok (.putfield 30, 3) := by decide +kernel
theorem dX10_init_49 : decode cX10_init 49 = .ok (.aload_n 0, 1) := by decide +kernel
theorem dX10_init_50 : decode cX10_init 50 = .ok (.new 34, 3) := by decide +kernel
theorem dX10_init_53 : decode cX10_init 53 = .ok (.dup, 1) := by decide +kernel
theorem dX10_init_54 : decode cX10_init 54 = .ok (.aload_n 0, 1) := by decide +kernel
theorem dX10_init_55 : decode cX10_init 55 = .ok (.getfield 10, 3) := by decide +kernel
theorem dX10_init_58 : decode cX10_init 58 = .ok (.aload_n 0, 1) := by decide +kernel
theorem dX10_init_59 : decode cX10_init 59 = .ok (.getfield 21, 3) := by decide +kernel
theorem dX10_init_62 : decode cX10_init 62 = .ok (.invokespecial 36, 3) := by decide +kernel
theorem dX10_init_65 : decode cX10_init 65 = .ok (.putfield 37, 3) := by decide +kernel
theorem dX10_init_68 : decode cX10_init 68 = .ok (.aload_n 0, 1) := by decide +kernel
theorem dX10_init_69 : decode cX10_init 69 = .ok (.new 41, 3) := by decide +kernel
theorem dX10_init_72 : decode cX10_init 72 = .ok (.dup, 1) := by decide +kernel
theorem dX10_init_73 : decode cX10_init 73 = .ok (.invokespecial 43, 3) := by decide +kernel
theorem dX10_init_76 : decode cX10_init 76 = .ok (.putfield 44, 3) := by decide +kernel
theorem dX10_init_79 : decode cX10_init 79 = .ok (.aload_n 0, 1) := by decide +kernel
theorem dX10_init_80 : decode cX10_init 80 = .ok (.new 48, 3) := by decide +kernel
theorem dX10_init_83 : decode cX10_init 83 = .ok (.dup, 1) := by decide +kernel
theorem dX10_init_84 : decode cX10_init 84 = .ok (.invokespecial 50, 3) := by decide +kernel
theorem dX10_init_87 : decode cX10_init 87 = .ok (.putfield 51, 3) := by decide +kernel
theorem dX10_init_90 : decode cX10_init 90 = .ok (.aload_n 0, 1) := by decide +kernel
theorem dX10_init_91 : decode cX10_init 91 = .ok (.new 48, 3) := by decide +kernel
theorem dX10_init_94 : decode cX10_init 94 = .ok (.dup, 1) := by decide +kernel
theorem dX10_init_95 : decode cX10_init 95 = .ok (.invokespecial 50, 3) := by decide +kernel
theorem dX10_init_98 : decode cX10_init 98 = .ok (.putfield 55, 3) := by decide +kernel
theorem dX10_init_101 : decode cX10_init 101 = .ok (.aload_n 0, 1) := by decide +kernel
theorem dX10_init_102 : decode cX10_init 102 = .ok (.new 58, 3) := by decide +kernel
theorem dX10_init_105 : decode cX10_init 105 = .ok (.dup, 1) := by decide +kernel
theorem dX10_init_106 : decode cX10_init 106 = .ok (.aload_n 0, 1) := by decide +kernel
theorem dX10_init_107 : decode cX10_init 107 = .ok (.getfield 30, 3) := by decide +kernel
theorem dX10_init_110 : decode cX10_init 110 = .ok (.aload_n 0, 1) := by decide +kernel
theorem dX10_init_111 : decode cX10_init 111 = .ok (.getfield 37, 3) := by decide +kernel
theorem dX10_init_114 : decode cX10_init 114 = .ok (.aload_n 0, 1) := by decide +kernel
theorem dX10_init_115 : decode cX10_init 115 = .ok (.getfield 21, 3) := by decide +kernel
theorem dX10_init_118 : decode cX10_init 118 = .ok (.aload_n 0, 1) := by decide +kernel
theorem dX10_init_119 : decode cX10_init 119 = .ok (.getfield 44, 3) := by decide +kernel
theorem dX10_init_122 : decode cX10_init 122 = .ok (.aload_n 0, 1) := by decide +kernel
theorem dX10_init_123 : decode cX10_init 123 = .ok (.getfield 51, 3) := by decide +kernel
theorem dX10_init_126 : decode cX10_init 126 = .ok (.invokespecial 60, 3) := by decide +kernel
theorem dX10_init_129 : decode cX10_init 129 = .ok (.putfield 63, 3) := by decide +kernel
theorem dX10_init_132 : decode cX10_init 132 = .ok (.aload_n 0, 1) := by decide +kernel
theorem dX10_init_133 : decode cX10_init 133 = .ok (.new 67, 3) := by decide +kernel
theorem dX10_init_136 : decode cX10_init 136 = .ok (.dup, 1) := by decide +kernel
theorem dX10_init_137 : decode cX10_init 137 = .ok (.aload_n 0, 1) := by decide +kernel
theorem dX10_init_138 : decode cX10_init 138 = .ok (.getfield 30, 3) := by decide +kernel
theorem dX10_init_141 : decode cX10_init 141 = .ok (.aload_n 0, 1) := by decide +kernel
theorem dX10_init_142 : decode cX10_init 142 = .ok (.getfield 37, 3) := by decide +kernel
theorem dX10_init_145 : decode cX10_init 145 = .ok (.invokespecial 69, 3) := by decide +kernel
theorem dX10_init_148 : decode cX10_init 148 = .ok (.putfield 72, 3) := by decide +kernel
theorem dX10_init_151 : decode cX10_init 151 = .ok (.return_, 1) := by decide +kernel
theorem dX10_add_0 : decode cX10_add 0 = .ok (.iload_n 1, 1) := by decide +kernel
theorem dX10_add_1 : decode cX10_add 1 = .ok (.bipush 6, 2) := by decide +kernel
theorem dX10_add_3 : decode cX10_add 3 = .ok (.invokestatic 76, 3) := by decide +kernel
theorem dX10_add_6 : decode cX10_add 6 = .ok (.iload_n 1, 1) := by decide +kernel
theorem dX10_add_7 : decode cX10_add 7 = .ok (.invokestatic 80, 3) := by decide +kernel
theorem dX10_add_10 : decode cX10_add 10 = .ok (.iload_n 2, 1) := by decide +kernel
theorem dX10_add_11 : decode cX10_add 11 = .ok (.iload_n 3, 1) := by decide +kernel
theorem dX10_add_12 : decode cX10_add 12 = .ok (.iload 4, 2) := by decide +kernel
theorem dX10_add_14 : decode cX10_add 14 = .ok (.iload 5, 2) := by decide +kernel
theorem dX10_add_16 : decode cX10_add 16 = .ok (.invokestatic 84, 3) := by decide +kernel
theorem dX10_add_19 : decode cX10_add 19 = .ok (.invokestatic 88, 3) := by decide +kernel
theorem dX10_add_22 : decode cX10_add 22 = .ok (.aload_n 0, 1) := by decide +kernel
theorem dX10_add_23 : decode cX10_add 23 = .ok (.getfield 37, 3) := by decide +kernel
theorem dX10_add_26 : decode cX10_add 26 = .ok (.iload_n 1, 1) := by decide +kernel
theorem dX10_add_27 : decode cX10_add 27 = .ok (.iload_n 2, 1) := by decide +kernel
theorem dX10_add_28 : decode cX10_add 28 = .ok (.invokevirtual 92, 3) := by decide +kernel
theorem dX10_add_31 : decode cX10_add 31 = .ok (.invokestatic 96, 3) := by decide +kernel
theorem dX10_add_34 : decode cX10_add 34 = .ok (.aload_n 0, 1) := by decide +kernel
theorem dX10_add_35 : decode cX10_add 35 = .ok (.getfield 37, 3) := by decide +kernel
theorem dX10_add_38 : decode cX10_add 38 = .ok (.iload_n 1, 1) := by decide +kernel
theorem dX10_add_39 : decode cX10_add 39 = .ok (.iload_n 2, 1) := by decide +kernel
theorem dX10_add_40 : decode cX10_add 40 = .ok (.iload_n 3, 1) := by decide +kernel
theorem dX10_add_41 : decode cX10_add 41 = .ok (.iload 4, 2) := by decide +kernel
theorem dX10_add_43 : decode cX10_add 43 = .ok (.iload 5, 2) := by decide +kernel
theorem dX10_add_45 : decode cX10_add 45 = .ok (.invokevirtual 99, 3) := by decide +kernel
theorem dX10_add_48 : decode cX10_add 48 = .ok (.ireturn, 1) := by decide +kernel
theorem dX10_change_0 : decode cX10_change 0 = .ok (.aload_n 0, 1) := by decide +kernel
theorem dX10_change_1 : decode cX10_change 1 = .ok (.iload_n 1, 1) := by decide +kernel
theorem dX10_change_2 : decode cX10_change 2 = .ok (.iload_n 2, 1) := by decide +kernel
theorem dX10_change_3 : decode cX10_change 3 = .ok (.iload_n 3, 1) := by decide +kernel
theorem dX10_change_4 : decode cX10_change 4 = .ok (.invokevirtual 103, 3) := by decide +kernel
theorem dX10_change_7 : decode cX10_change 7 = .ok (.iload_n 1, 1) := by decide +kernel
theorem dX10_change_8 : decode cX10_change 8 = .ok (.invokestatic 80, 3) := by decide +kernel
theorem dX10_change_11 : decode cX10_change 11 = .ok (.iload_n 3, 1) := by decide +kernel
theorem dX10_change_12 : decode cX10_change 12 = .ok (.iload 4, 2) := by decide +kernel
theorem dX10_change_14 : decode cX10_change 14 = .ok (.invokestatic 107, 3) := by decide +kernel
theorem dX10_change_17 : decode cX10_change 17 = .ok (.invokestatic 88, 3) := by decide +kernel
theorem dX10_change_20 : decode cX10_change 20 = .ok (.aload_n 0, 1) := by decide +kernel
theorem dX10_change_21 : decode cX10_change 21 = .ok (.getfield 37, 3) := by decide +kernel
theorem dX10_change_24 : decode cX10_change 24 = .ok (.iload_n 1, 1) := by decide +kernel
theorem dX10_change_25 : decode cX10_change 25 = .ok (.iload_n 2, 1) := by decide +kernel
theorem dX10_change_26 : decode cX10_change 26 = .ok (.iload_n 3, 1) := by decide +kernel
theorem dX10_change_27 : decode cX10_change 27 = .ok (.iload 4, 2) := by decide +kernel
theorem dX10_change_29 : decode cX10_change 29 = .ok (.invokevirtual 111, 3) := by decide +kernel
theorem dX10_change_32 : decode cX10_change 32 = .ok (.ireturn, 1) := by decide +kernel
theorem dX10_remove_0 : decode cX10_remove 0 = .ok (.iload_n 1, 1) := by decide +kernel
theorem dX10_remove_1 : decode cX10_remove 1 = .ok (.bipush 6, 2) := by decide +kernel
theorem dX10_remove_3 : decode cX10_remove 3 = .ok (.invokestatic 76, 3) := by decide +kernel
theorem dX10_remove_6 : decode cX10_remove 6 = .ok (.aload_n 0, 1) := by decide +kernel
theorem dX10_remove_7 : decode cX10_remove 7 = .ok (.getfield 37, 3) := by decide +kernel
theorem dX10_remove_10 : decode cX10_remove 10 = .ok (.getfield 115, 3) := by decide +kernel
theorem dX10_remove_13 : decode cX10_remove 13 = .ok (.iload_n 1, 1) := by decide +kernel
theorem dX10_remove_14 : decode cX10_remove 14 = .ok (.aaload, 1) := by decide +kernel
theorem dX10_remove_15 : decode cX10_remove 15 = .ok (.iload_n 2, 1) := by decide +kernel
theorem dX10_remove_16 : decode cX10_remove 16 = .ok (.invokevirtual 119, 3) := by decide +kernel
theorem dX10_remove_19 : decode cX10_remove 19 = .ok (.invokestatic 125, 3) := by decide +kernel
theorem dX10_remove_22 : decode cX10_remove 22 = .ok (.aload_n 0, 1) := by decide +kernel
theorem dX10_remove_23 : decode cX10_remove 23 = .ok (.getfield 37, 3) := by decide +kernel
theorem dX10_remove_26 : decode cX10_remove 26 = .ok (.iload_n 1, 1) := by decide +kernel
theorem dX10_remove_27 : decode cX10_remove 27 = .ok (.iload_n 2, 1) := by decide +kernel
theorem dX10_remove_28 : decode cX10_remove 28 = .ok (.invokevirtual 128, 3) := by decide +kernel
theorem dX10_remove_31 : decode cX10_remove 31 = .ok (.aload_n 0, 1) := by decide +kernel
theorem dX10_remove_32 : decode cX10_remove 32 = .ok (.getfield 37, 3) := by decide +kernel
theorem dX10_remove_35 : decode cX10_remove 35 = .ok (.getfield 115, 3) := by decide +kernel
theorem dX10_remove_38 : decode cX10_remove 38 = .ok (.iload_n 1, 1) := by decide +kernel
theorem dX10_remove_39 : decode cX10_remove 39 = .ok (.aaload, 1) := by decide +kernel
theorem dX10_remove_40 : decode cX10_remove 40 = .ok (.getfield 131, 3) := by decide +kernel
theorem dX10_remove_43 : decode cX10_remove 43 = .ok (.ireturn, 1) := by decide +kernel
theorem dX10_count_0 : decode cX10_count 0 = .ok (.iload_n 1, 1) := by decide +kernel
theorem dX10_count_1 : decode cX10_count 1 = .ok (.bipush 6, 2) := by decide +kernel
theorem dX10_count_3 : decode cX10_count 3 = .ok (.invokestatic 76, 3) := by decide +kernel
theorem dX10_count_6 : decode cX10_count 6 = .ok (.aload_n 0, 1) := by decide +kernel
theorem dX10_count_7 : decode cX10_count 7 = .ok (.getfield 37, 3) := by decide +kernel
theorem dX10_count_10 : decode cX10_count 10 = .ok (.getfield 115, 3) := by decide +kernel
theorem dX10_count_13 : decode cX10_count 13 = .ok (.iload_n 1, 1) := by decide +kernel
theorem dX10_count_14 : decode cX10_count 14 = .ok (.aaload, 1) := by decide +kernel
theorem dX10_count_15 : decode cX10_count 15 = .ok (.getfield 131, 3) := by decide +kernel
theorem dX10_count_18 : decode cX10_count 18 = .ok (.ireturn, 1) := by decide +kernel
theorem dX10_cell_0 : decode cX10_cell 0 = .ok (.aload_n 0, 1) := by decide +kernel
theorem dX10_cell_1 : decode cX10_cell 1 = .ok (.iload_n 1, 1) := by decide +kernel
theorem dX10_cell_2 : decode cX10_cell 2 = .ok (.iload_n 2, 1) := by decide +kernel
theorem dX10_cell_3 : decode cX10_cell 3 = .ok (.iload_n 3, 1) := by decide +kernel
theorem dX10_cell_4 : decode cX10_cell 4 = .ok (.invokevirtual 103, 3) := by decide +kernel
theorem dX10_cell_7 : decode cX10_cell 7 = .ok (.aload_n 0, 1) := by decide +kernel
theorem dX10_cell_8 : decode cX10_cell 8 = .ok (.getfield 37, 3) := by decide +kernel
theorem dX10_cell_11 : decode cX10_cell 11 = .ok (.getfield 115, 3) := by decide +kernel
theorem dX10_cell_14 : decode cX10_cell 14 = .ok (.iload_n 1, 1) := by decide +kernel
theorem dX10_cell_15 : decode cX10_cell 15 = .ok (.aaload, 1) := by decide +kernel
theorem dX10_cell_16 : decode cX10_cell 16 = .ok (.astore 4, 2) := by decide +kernel
theorem dX10_cell_18 : decode cX10_cell 18 = .ok (.aload 4, 2) := by decide +kernel
theorem dX10_cell_20 : decode cX10_cell 20 = .ok (.aload 4, 2) := by decide +kernel
theorem dX10_cell_22 : decode cX10_cell 22 = .ok (.iload_n 2, 1) := by decide +kernel
theorem dX10_cell_23 : decode cX10_cell 23 = .ok (.invokevirtual 135, 3) := by decide +kernel
theorem dX10_cell_26 : decode cX10_cell 26 = .ok (.iload_n 3, 1) := by decide +kernel
theorem dX10_cell_27 : decode cX10_cell 27 = .ok (.invokevirtual 138, 3) := by decide +kernel
theorem dX10_cell_30 : decode cX10_cell 30 = .ok (.ireturn, 1) := by decide +kernel
theorem dX10_losses_0 : decode cX10_losses 0 = .ok (.aload_n 0, 1) := by decide +kernel
theorem dX10_losses_1 : decode cX10_losses 1 = .ok (.getfield 37, 3) := by decide +kernel
theorem dX10_losses_4 : decode cX10_losses 4 = .ok (.getfield 142, 3) := by decide +kernel
theorem dX10_losses_7 : decode cX10_losses 7 = .ok (.ireturn, 1) := by decide +kernel
theorem dX10_moment_0 : decode cX10_moment 0 = .ok (.aload_n 0, 1) := by decide +kernel
theorem dX10_moment_1 : decode cX10_moment 1 = .ok (.getfield 10, 3) := by decide +kernel
theorem dX10_moment_4 : decode cX10_moment 4 = .ok (.getfield 145, 3) := by decide +kernel
theorem dX10_moment_7 : decode cX10_moment 7 = .ok (.ireturn, 1) := by decide +kernel
theorem dX10_setPace_0 : decode cX10_setPace 0 = .ok (.iload_n 1, 1) := by decide +kernel
theorem dX10_setPace_1 : decode cX10_setPace 1 = .ok (.iconst 3, 1) := by decide +kernel
theorem dX10_setPace_2 : decode cX10_setPace 2 = .ok (.invokestatic 76, 3) := by decide +kernel
theorem dX10_setPace_5 : decode cX10_setPace 5 = .ok (.iload_n 2, 1) := by decide +kernel
theorem dX10_setPace_6 : decode cX10_setPace 6 = .ok (.iconst 0, 1) := by decide +kernel
theorem dX10_setPace_7 : decode cX10_setPace 7 = .ok (.bipush 30, 2) := by decide +kernel
theorem dX10_setPace_9 : decode cX10_setPace 9 = .ok (.invokestatic 148, 3) := by decide +kernel
theorem dX10_setPace_12 : decode cX10_setPace 12 = .ok (.ifCond .eq 17, 3) := by decide +kernel
theorem dX10_setPace_15 : decode cX10_setPace 15 = .ok (.iload_n 3, 1) := by decide +kernel
theorem dX10_setPace_16 : decode cX10_setPace 16 = .ok (.iconst 0, 1) := by decide +kernel
theorem dX10_setPace_17 : decode cX10_setPace 17 = .ok (.bipush 60, 2) := by decide +kernel
theorem dX10_setPace_19 : decode cX10_setPace 19 = .ok (.invokestatic 148, 3) := by decide +kernel
theorem dX10_setPace_22 : decode cX10_setPace 22 = .ok (.ifCond .eq 7, 3) := by decide +kernel
theorem dX10_setPace_25 : decode cX10_setPace 25 = .ok (.iconst 1, 1) := by decide +kernel
theorem dX10_setPace_26 : decode cX10_setPace 26 = .ok (.goto 4, 3) := by decide +kernel
theorem dX10_setPace_29 : decode cX10_setPace 29 = .ok (.iconst 0, 1) := by decide +kernel
theorem dX10_setPace_30 : decode cX10_setPace 30 = .ok (.invokestatic 88, 3) := by decide +kernel
theorem dX10_setPace_33 : decode cX10_setPace 33 = .ok (.aload_n 0, 1) := by decide +kernel
theorem dX10_setPace_34 : decode cX10_setPace 34 = .ok (.getfield 30, 3) := by decide +kernel
theorem dX10_setPace_37 : decode cX10_setPace 37 = .ok (.getfield 151, 3) := by decide +kernel
theorem dX10_setPace_40 : decode cX10_setPace 40 = .ok (.iload_n 1, 1) := by decide +kernel
theorem dX10_setPace_41 : decode cX10_setPace 41 = .ok (.iaload, 1) := by decide +kernel
theorem dX10_setPace_42 : decode cX10_setPace 42 = .ok (.istore 4, 2) := by decide +kernel
theorem dX10_setPace_44 : decode cX10_setPace 44 = .ok (.aload_n 0, 1) := by decide +kernel
theorem dX10_setPace_45 : decode cX10_setPace 45 = .ok (.getfield 30, 3) := by decide +kernel
theorem dX10_setPace_48 : decode cX10_setPace 48 = .ok (.getfield 151, 3) := by decide +kernel
theorem dX10_setPace_51 : decode cX10_setPace 51 = .ok (.iload_n 1, 1) := by decide +kernel
theorem dX10_setPace_52 : decode cX10_setPace 52 = .ok (.iload_n 2, 1) := by decide +kernel
theorem dX10_setPace_53 : decode cX10_setPace 53 = .ok (.iastore, 1) := by decide +kernel
theorem dX10_setPace_54 : decode cX10_setPace 54 = .ok (.aload_n 0, 1) := by decide +kernel
theorem dX10_setPace_55 : decode cX10_setPace 55 = .ok (.getfield 21, 3) := by decide +kernel
theorem dX10_setPace_58 : decode cX10_setPace 58 = .ok (.getfield 155, 3) := by decide +kernel
theorem dX10_setPace_61 : decode cX10_setPace 61 = .ok (.iload_n 1, 1) := by decide +kernel
theorem dX10_setPace_62 : decode cX10_setPace 62 = .ok (.iload_n 3, 1) := by decide +kernel
theorem dX10_setPace_63 : decode cX10_setPace 63 = .ok (.iastore, 1) := by decide +kernel
theorem dX10_setPace_64 : decode cX10_setPace 64 = .ok (.iload 4, 2) := by decide +kernel
theorem dX10_setPace_66 : decode cX10_setPace 66 = .ok (.ireturn, 1) := by decide +kernel
theorem dX10_setBounds_0 : decode cX10_setBounds 0 = .ok (.iload_n 1, 1) := by decide +kernel
theorem dX10_setBounds_1 : decode cX10_setBounds 1 = .ok (.iconst 3, 1) := by decide +kernel
theorem dX10_setBounds_2 : decode cX10_setBounds 2 = .ok (.invokestatic 76, 3) := by decide +kernel
theorem dX10_setBounds_5 : decode cX10_setBounds 5 = .ok (.iload_n 2, 1) := by decide +kernel
theorem dX10_setBounds_6 : decode cX10_setBounds 6 = .ok (.iconst 1, 1) := by decide +kernel
theorem dX10_setBounds_7 : decode cX10_setBounds 7 = .ok (.bipush 20, 2) := by decide +kernel
theorem dX10_setBounds_9 : decode cX10_setBounds 9 = .ok (.invokestatic 148, 3) := by decide +kernel
theorem dX10_setBounds_12 : decode cX10_setBounds 12 = .ok (.ifCond .eq 17, 3) := by decide +kernel
theorem dX10_setBounds_15 : decode cX10_setBounds 15 = .ok (.iload_n 3, 1) := by decide +kernel
theorem dX10_setBounds_16 : decode cX10_setBounds 16 = .ok (.iconst 0, 1) := by decide +kernel
theorem dX10_setBounds_17 : decode cX10_setBounds 17 = .ok (.bipush 12, 2) := by decide +kernel
theorem dX10_setBounds_19 : decode cX10_setBounds 19 = .ok (.invokestatic 148, 3) := by decide +kernel
theorem dX10_setBounds_22 : decode cX10_setBounds 22 = .ok (.ifCond .eq 7, 3) := by decide +kernel
theorem dX10_setBounds_25 : decode cX10_setBounds 25 = .ok (.iconst 1, 1) := by decide +kernel
theorem dX10_setBounds_26 : decode cX10_setBounds 26 = .ok (.goto 4, 3) := by decide +kernel
theorem dX10_setBounds_29 : decode cX10_setBounds 29 = .ok (.iconst 0, 1) := by decide +kernel
theorem dX10_setBounds_30 : decode cX10_setBounds 30 = .ok (.invokestatic 88, 3) := by decide +kernel
theorem dX10_setBounds_33 : decode cX10_setBounds 33 = .ok (.aload_n 0, 1) := by decide +kernel
theorem dX10_setBounds_34 : decode cX10_setBounds 34 = .ok (.getfield 30, 3) := by decide +kernel
theorem dX10_setBounds_37 : decode cX10_setBounds 37 = .ok (.getfield 158, 3) := by decide +kernel
theorem dX10_setBounds_40 : decode cX10_setBounds 40 = .ok (.iload_n 1, 1) := by decide +kernel
theorem dX10_setBounds_41 : decode cX10_setBounds 41 = .ok (.iaload, 1) := by decide +kernel
theorem dX10_setBounds_42 : decode cX10_setBounds 42 = .ok (.istore 4, 2) := by decide +kernel
theorem dX10_setBounds_44 : decode cX10_setBounds 44 = .ok (.aload_n 0, 1) := by decide +kernel
theorem dX10_setBounds_45 : decode cX10_setBounds 45 = .ok (.getfield 30, 3) := by decide +kernel
theorem dX10_setBounds_48 : decode cX10_setBounds 48 = .ok (.getfield 158, 3) := by decide +kernel
theorem dX10_setBounds_51 : decode cX10_setBounds 51 = .ok (.iload_n 1, 1) := by decide +kernel
theorem dX10_setBounds_52 : decode cX10_setBounds 52 = .ok (.iload_n 2, 1) := by decide +kernel
theorem dX10_setBounds_53 : decode cX10_setBounds 53 = .ok (.iastore, 1) := by decide +kernel
theorem dX10_setBounds_54 : decode cX10_setBounds 54 = .ok (.aload_n 0, 1) := by decide +kernel
theorem dX10_setBounds_55 : decode cX10_setBounds 55 = .ok (.getfield 30, 3) := by decide +kernel
theorem dX10_setBounds_58 : decode cX10_setBounds 58 = .ok (.getfield 161, 3) := by decide +kernel
theorem dX10_setBounds_61 : decode cX10_setBounds 61 = .ok (.iload_n 1, 1) := by decide +kernel
theorem dX10_setBounds_62 : decode cX10_setBounds 62 = .ok (.iload_n 3, 1) := by decide +kernel
theorem dX10_setBounds_63 : decode cX10_setBounds 63 = .ok (.iastore, 1) := by decide +kernel
theorem dX10_setBounds_64 : decode cX10_setBounds 64 = .ok (.iload 4, 2) := by decide +kernel
theorem dX10_setBounds_66 : decode cX10_setBounds 66 = .ok (.ireturn, 1) := by decide +kernel
theorem dX10_setLease_0 : decode cX10_setLease 0 = .ok (.iload_n 1, 1) := by decide +kernel
theorem dX10_setLease_1 : decode cX10_setLease 1 = .ok (.iconst 3, 1) := by decide +kernel
theorem dX10_setLease_2 : decode cX10_setLease 2 = .ok (.invokestatic 76, 3) := by decide +kernel
theorem dX10_setLease_5 : decode cX10_setLease 5 = .ok (.iload_n 2, 1) := by decide +kernel
theorem dX10_setLease_6 : decode cX10_setLease 6 = .ok (.iconst 0, 1) := by decide +kernel
theorem dX10_setLease_7 : decode cX10_setLease 7 = .ok (.sipush 200, 3) := by decide +kernel
theorem dX10_setLease_10 : decode cX10_setLease 10 = .ok (.invokestatic 148, 3) := by decide +kernel
theorem dX10_setLease_13 : decode cX10_setLease 13 = .ok (.invokestatic 88, 3) := by decide +kernel
theorem dX10_setLease_16 : decode cX10_setLease 16 = .ok (.aload_n 0, 1) := by decide +kernel
theorem dX10_setLease_17 : decode cX10_setLease 17 = .ok (.getfield 21, 3) := by decide +kernel
theorem dX10_setLease_20 : decode cX10_setLease 20 = .ok (.getfield 164, 3) := by decide +kernel
theorem dX10_setLease_23 : decode cX10_setLease 23 = .ok (.iload_n 1, 1) := by decide +kernel
theorem dX10_setLease_24 : decode cX10_setLease 24 = .ok (.iaload, 1) := by decide +kernel
theorem dX10_setLease_25 : decode cX10_setLease 25 = .ok (.istore_n 3, 1) := by decide +kernel
theorem dX10_setLease_26 : decode cX10_setLease 26 = .ok (.aload_n 0, 1) := by decide +kernel
theorem dX10_setLease_27 : decode cX10_setLease 27 = .ok (.getfield 21, 3) := by decide +kernel
theorem dX10_setLease_30 : decode cX10_setLease 30 = .ok (.getfield 164, 3) := by decide +kernel
theorem dX10_setLease_33 : decode cX10_setLease 33 = .ok (.iload_n 1, 1) := by decide +kernel
theorem dX10_setLease_34 : decode cX10_setLease 34 = .ok (.iload_n 2, 1) := by decide +kernel
theorem dX10_setLease_35 : decode cX10_setLease 35 = .ok (.iastore, 1) := by decide +kernel
theorem dX10_setLease_36 : decode cX10_setLease 36 = .ok (.aload_n 0, 1) := by decide +kernel
theorem dX10_setLease_37 : decode cX10_setLease 37 = .ok (.getfield 21, 3) := by decide +kernel
theorem dX10_setLease_40 : decode cX10_setLease 40 = .ok (.invokevirtual 167, 3) := by decide +kernel
theorem dX10_setLease_43 : decode cX10_setLease 43 = .ok (.iload_n 3, 1) := by decide +kernel
theorem dX10_setLease_44 : decode cX10_setLease 44 = .ok (.ireturn, 1) := by decide +kernel
theorem dX10_fail_0 : decode cX10_fail 0 = .ok (.iload_n 1, 1) := by decide +kernel
theorem dX10_fail_1 : decode cX10_fail 1 = .ok (.iconst 3, 1) := by decide +kernel
theorem dX10_fail_2 : decode cX10_fail 2 = .ok (.invokestatic 76, 3) := by decide +kernel
theorem dX10_fail_5 : decode cX10_fail 5 = .ok (.iload_n 2, 1) := by decide +kernel
theorem dX10_fail_6 : decode cX10_fail 6 = .ok (.iconst 0, 1) := by decide +kernel
theorem dX10_fail_7 : decode cX10_fail 7 = .ok (.bipush 20, 2) := by decide +kernel
theorem dX10_fail_9 : decode cX10_fail 9 = .ok (.invokestatic 148, 3) := by decide +kernel
theorem dX10_fail_12 : decode cX10_fail 12 = .ok (.invokestatic 88, 3) := by decide +kernel
theorem dX10_fail_15 : decode cX10_fail 15 = .ok (.aload_n 0, 1) := by decide +kernel
theorem dX10_fail_16 : decode cX10_fail 16 = .ok (.getfield 30, 3) := by decide +kernel
theorem dX10_fail_19 : decode cX10_fail 19 = .ok (.getfield 170, 3) := by decide +kernel
theorem dX10_fail_22 : decode cX10_fail 22 = .ok (.iload_n 1, 1) := by decide +kernel
theorem dX10_fail_23 : decode cX10_fail 23 = .ok (.iaload, 1) := by decide +kernel
theorem dX10_fail_24 : decode cX10_fail 24 = .ok (.istore 4, 2) := by decide +kernel
theorem dX10_fail_26 : decode cX10_fail 26 = .ok (.aload_n 0, 1) := by decide +kernel
theorem dX10_fail_27 : decode cX10_fail 27 = .ok (.getfield 30, 3) := by decide +kernel
theorem dX10_fail_30 : decode cX10_fail 30 = .ok (.getfield 170, 3) := by decide +kernel
theorem dX10_fail_33 : decode cX10_fail 33 = .ok (.iload_n 1, 1) := by decide +kernel
theorem dX10_fail_34 : decode cX10_fail 34 = .ok (.iload_n 2, 1) := by decide +kernel
theorem dX10_fail_35 : decode cX10_fail 35 = .ok (.iastore, 1) := by decide +kernel
theorem dX10_fail_36 : decode cX10_fail 36 = .ok (.aload_n 0, 1) := by decide +kernel
theorem dX10_fail_37 : decode cX10_fail 37 = .ok (.getfield 30, 3) := by decide +kernel
theorem dX10_fail_40 : decode cX10_fail 40 = .ok (.getfield 173, 3) := by decide +kernel
theorem dX10_fail_43 : decode cX10_fail 43 = .ok (.iload_n 1, 1) := by decide +kernel
theorem dX10_fail_44 : decode cX10_fail 44 = .ok (.iload_n 3, 1) := by decide +kernel
theorem dX10_fail_45 : decode cX10_fail 45 = .ok (.bastore, 1) := by decide +kernel
theorem dX10_fail_46 : decode cX10_fail 46 = .ok (.iload 4, 2) := by decide +kernel
theorem dX10_fail_48 : decode cX10_fail 48 = .ok (.ireturn, 1) := by decide +kernel
theorem dX10_forbid_0 : decode cX10_forbid 0 = .ok (.iload_n 1, 1) := by decide +kernel
theorem dX10_forbid_1 : decode cX10_forbid 1 = .ok (.bipush 6, 2) := by decide +kernel
theorem dX10_forbid_3 : decode cX10_forbid 3 = .ok (.invokestatic 76, 3) := by decide +kernel
theorem dX10_forbid_6 : decode cX10_forbid 6 = .ok (.iload_n 2, 1) := by decide +kernel
theorem dX10_forbid_7 : decode cX10_forbid 7 = .ok (.iconst 3, 1) := by decide +kernel
theorem dX10_forbid_8 : decode cX10_forbid 8 = .ok (.invokestatic 76, 3) := by decide +kernel
theorem dX10_forbid_11 : decode cX10_forbid 11 = .ok (.iload_n 1, 1) := by decide +kernel
theorem dX10_forbid_12 : decode cX10_forbid 12 = .ok (.iconst 3, 1) := by decide +kernel
theorem dX10_forbid_13 : decode cX10_forbid 13 = .ok (.imul, 1) := by decide +kernel
theorem dX10_forbid_14 : decode cX10_forbid 14 = .ok (.iload_n 2, 1) := by decide +kernel
theorem dX10_forbid_15 : decode cX10_forbid 15 = .ok (.iadd, 1) := by decide +kernel
theorem dX10_forbid_16 : decode cX10_forbid 16 = .ok (.istore 4, 2) := by decide +kernel
theorem dX10_forbid_18 : decode cX10_forbid 18 = .ok (.aload_n 0, 1) := by decide +kernel
theorem dX10_forbid_19 : decode cX10_forbid 19 = .ok (.getfield 30, 3) := by decide +kernel
theorem dX10_forbid_22 : decode cX10_forbid 22 = .ok (.getfield 177, 3) := by decide +kernel
theorem dX10_forbid_25 : decode cX10_forbid 25 = .ok (.iload 4, 2) := by decide +kernel
theorem dX10_forbid_27 : decode cX10_forbid 27 = .ok (.baload, 1) := by decide +kernel
theorem dX10_forbid_28 : decode cX10_forbid 28 = .ok (.istore 5, 2) := by decide +kernel
theorem dX10_forbid_30 : decode cX10_forbid 30 = .ok (.aload_n 0, 1) := by decide +kernel
theorem dX10_forbid_31 : decode cX10_forbid 31 = .ok (.getfield 30, 3) := by decide +kernel
theorem dX10_forbid_34 : decode cX10_forbid 34 = .ok (.getfield 177, 3) := by decide +kernel
theorem dX10_forbid_37 : decode cX10_forbid 37 = .ok (.iload 4, 2) := by decide +kernel
theorem dX10_forbid_39 : decode cX10_forbid 39 = .ok (.iload_n 3, 1) := by decide +kernel
theorem dX10_forbid_40 : decode cX10_forbid 40 = .ok (.bastore, 1) := by decide +kernel
theorem dX10_forbid_41 : decode cX10_forbid 41 = .ok (.iload 5, 2) := by decide +kernel
theorem dX10_forbid_43 : decode cX10_forbid 43 = .ok (.ireturn, 1) := by decide +kernel
theorem dX10_pass_0 : decode cX10_pass 0 = .ok (.iload_n 1, 1) := by decide +kernel
theorem dX10_pass_1 : decode cX10_pass 1 = .ok (.iconst 1, 1) := by decide +kernel
theorem dX10_pass_2 : decode cX10_pass 2 = .ok (.bipush 100, 2) := by decide +kernel
theorem dX10_pass_4 : decode cX10_pass 4 = .ok (.invokestatic 148, 3) := by decide +kernel
theorem dX10_pass_7 : decode cX10_pass 7 = .ok (.invokestatic 88, 3) := by decide +kernel
theorem dX10_pass_10 : decode cX10_pass 10 = .ok (.aload_n 0, 1) := by decide +kernel
theorem dX10_pass_11 : decode cX10_pass 11 = .ok (.getfield 30, 3) := by decide +kernel
theorem dX10_pass_14 : decode cX10_pass 14 = .ok (.aload_n 0, 1) := by decide +kernel
theorem dX10_pass_15 : decode cX10_pass 15 = .ok (.getfield 10, 3) := by decide +kernel
theorem dX10_pass_18 : decode cX10_pass 18 = .ok (.getfield 180, 3) := by decide +kernel
theorem dX10_pass_21 : decode cX10_pass 21 = .ok (.iload_n 1, 1) := by decide +kernel
theorem dX10_pass_22 : decode cX10_pass 22 = .ok (.iadd, 1) := by decide +kernel
theorem dX10_pass_23 : decode cX10_pass 23 = .ok (.invokevirtual 183, 3) := by decide +kernel
theorem dX10_pass_26 : decode cX10_pass 26 = .ok (.aload_n 0, 1) := by decide +kernel
theorem dX10_pass_27 : decode cX10_pass 27 = .ok (.getfield 10, 3) := by decide +kernel
theorem dX10_pass_30 : decode cX10_pass 30 = .ok (.getfield 180, 3) := by decide +kernel
theorem dX10_pass_33 : decode cX10_pass 33 = .ok (.ireturn, 1) := by decide +kernel
theorem dX10_now_0 : decode cX10_now 0 = .ok (.aload_n 0, 1) := by decide +kernel
theorem dX10_now_1 : decode cX10_now 1 = .ok (.getfield 10, 3) := by decide +kernel
theorem dX10_now_4 : decode cX10_now 4 = .ok (.getfield 180, 3) := by decide +kernel
theorem dX10_now_7 : decode cX10_now 7 = .ok (.ireturn, 1) := by decide +kernel
theorem dX10_seat_0 : decode cX10_seat 0 = .ok (.iload_n 1, 1) := by decide +kernel
theorem dX10_seat_1 : decode cX10_seat 1 = .ok (.bipush 6, 2) := by decide +kernel
theorem dX10_seat_3 : decode cX10_seat 3 = .ok (.invokestatic 76, 3) := by decide +kernel
theorem dX10_seat_6 : decode cX10_seat 6 = .ok (.aload_n 0, 1) := by decide +kernel
theorem dX10_seat_7 : decode cX10_seat 7 = .ok (.getfield 44, 3) := by decide +kernel
theorem dX10_seat_10 : decode cX10_seat 10 = .ok (.getfield 187, 3) := by decide +kernel
theorem dX10_seat_13 : decode cX10_seat 13 = .ok (.iconst 3, 1) := by decide +kernel
theorem dX10_seat_14 : decode cX10_seat 14 = .ok (.if_icmp .ge 7, 3) := by decide +kernel
theorem dX10_seat_17 : decode cX10_seat 17 = .ok (.iconst 1, 1) := by decide +kernel
theorem dX10_seat_18 : decode cX10_seat 18 = .ok (.goto 4, 3) := by decide +kernel
theorem dX10_seat_21 : decode cX10_seat 21 = .ok (.iconst 0, 1) := by decide +kernel
theorem dX10_seat_22 : decode cX10_seat 22 = .ok (.invokestatic 96, 3) := by decide +kernel
theorem dX10_seat_25 : decode cX10_seat 25 = .ok (.aload_n 0, 1) := by decide +kernel
theorem dX10_seat_26 : decode cX10_seat 26 = .ok (.getfield 44, 3) := by decide +kernel
theorem dX10_seat_29 : decode cX10_seat 29 = .ok (.iload_n 1, 1) := by decide +kernel
theorem dX10_seat_30 : decode cX10_seat 30 = .ok (.invokevirtual 190, 3) := by decide +kernel
theorem dX10_seat_33 : decode cX10_seat 33 = .ok (.ireturn, 1) := by decide +kernel
theorem dX10_link_0 : decode cX10_link 0 = .ok (.aload_n 0, 1) := by decide +kernel
theorem dX10_link_1 : decode cX10_link 1 = .ok (.getfield 44, 3) := by decide +kernel
theorem dX10_link_4 : decode cX10_link 4 = .ok (.iload_n 1, 1) := by decide +kernel
theorem dX10_link_5 : decode cX10_link 5 = .ok (.iload_n 2, 1) := by decide +kernel
theorem dX10_link_6 : decode cX10_link 6 = .ok (.invokevirtual 193, 3) := by decide +kernel
theorem dX10_link_9 : decode cX10_link 9 = .ok (.ifCond .eq 20, 3) := by decide +kernel
theorem dX10_link_12 : decode cX10_link 12 = .ok (.aload_n 0, 1) := by decide +kernel
theorem dX10_link_13 : decode cX10_link 13 = .ok (.getfield 44, 3) := by decide +kernel
theorem dX10_link_16 : decode cX10_link 16 = .ok (.iload_n 3, 1) := by decide +kernel
theorem dX10_link_17 : decode cX10_link 17 = .ok (.iload 4, 2) := by decide +kernel
theorem dX10_link_19 : decode cX10_link 19 = .ok (.invokevirtual 193, 3) := by decide +kernel
theorem dX10_link_22 : decode cX10_link 22 = .ok (.ifCond .eq 7, 3) := by decide +kernel
theorem dX10_link_25 : decode cX10_link 25 = .ok (.iconst 1, 1) := by decide +kernel
theorem dX10_link_26 : decode cX10_link 26 = .ok (.goto 4, 3) := by decide +kernel
theorem dX10_link_29 : decode cX10_link 29 = .ok (.iconst 0, 1) := by decide +kernel
theorem dX10_link_30 : decode cX10_link 30 = .ok (.invokestatic 125, 3) := by decide +kernel
theorem dX10_link_33 : decode cX10_link 33 = .ok (.iload_n 3, 1) := by decide +kernel
theorem dX10_link_34 : decode cX10_link 34 = .ok (.iload_n 1, 1) := by decide +kernel
theorem dX10_link_35 : decode cX10_link 35 = .ok (.if_icmp .le 7, 3) := by decide +kernel
theorem dX10_link_38 : decode cX10_link 38 = .ok (.iconst 1, 1) := by decide +kernel
theorem dX10_link_39 : decode cX10_link 39 = .ok (.goto 4, 3) := by decide +kernel
theorem dX10_link_42 : decode cX10_link 42 = .ok (.iconst 0, 1) := by decide +kernel
theorem dX10_link_43 : decode cX10_link 43 = .ok (.invokestatic 88, 3) := by decide +kernel
theorem dX10_link_46 : decode cX10_link 46 = .ok (.aload_n 0, 1) := by decide +kernel
theorem dX10_link_47 : decode cX10_link 47 = .ok (.getfield 44, 3) := by decide +kernel
theorem dX10_link_50 : decode cX10_link 50 = .ok (.getfield 196, 3) := by decide +kernel
theorem dX10_link_53 : decode cX10_link 53 = .ok (.iconst 3, 1) := by decide +kernel
theorem dX10_link_54 : decode cX10_link 54 = .ok (.if_icmp .ge 7, 3) := by decide +kernel
theorem dX10_link_57 : decode cX10_link 57 = .ok (.iconst 1, 1) := by decide +kernel
theorem dX10_link_58 : decode cX10_link 58 = .ok (.goto 4, 3) := by decide +kernel
theorem dX10_link_61 : decode cX10_link 61 = .ok (.iconst 0, 1) := by decide +kernel
theorem dX10_link_62 : decode cX10_link 62 = .ok (.invokestatic 96, 3) := by decide +kernel
theorem dX10_link_65 : decode cX10_link 65 = .ok (.aload_n 0, 1) := by decide +kernel
theorem dX10_link_66 : decode cX10_link 66 = .ok (.getfield 44, 3) := by decide +kernel
theorem dX10_link_69 : decode cX10_link 69 = .ok (.iload_n 1, 1) := by decide +kernel
theorem dX10_link_70 : decode cX10_link 70 = .ok (.iload_n 2, 1) := by decide +kernel
theorem dX10_link_71 : decode cX10_link 71 = .ok (.iload_n 3, 1) := by decide +kernel
theorem dX10_link_72 : decode cX10_link 72 = .ok (.iload 4, 2) := by decide +kernel
theorem dX10_link_74 : decode cX10_link 74 = .ok (.invokevirtual 199, 3) := by decide +kernel
theorem dX10_link_77 : decode cX10_link 77 = .ok (.ireturn, 1) := by decide +kernel
theorem dX10_where_0 : decode cX10_where 0 = .ok (.aload_n 0, 1) := by decide +kernel
theorem dX10_where_1 : decode cX10_where 1 = .ok (.getfield 44, 3) := by decide +kernel
theorem dX10_where_4 : decode cX10_where 4 = .ok (.iload_n 1, 1) := by decide +kernel
theorem dX10_where_5 : decode cX10_where 5 = .ok (.iload_n 2, 1) := by decide +kernel
theorem dX10_where_6 : decode cX10_where 6 = .ok (.invokevirtual 193, 3) := by decide +kernel
theorem dX10_where_9 : decode cX10_where 9 = .ok (.invokestatic 125, 3) := by decide +kernel
theorem dX10_where_12 : decode cX10_where 12 = .ok (.iload_n 3, 1) := by decide +kernel
theorem dX10_where_13 : decode cX10_where 13 = .ok (.iload 4, 2) := by decide +kernel
theorem dX10_where_15 : decode cX10_where 15 = .ok (.invokestatic 202, 3) := by decide +kernel
theorem dX10_where_18 : decode cX10_where 18 = .ok (.invokestatic 88, 3) := by decide +kernel
theorem dX10_where_21 : decode cX10_where 21 = .ok (.aload_n 0, 1) := by decide +kernel
theorem dX10_where_22 : decode cX10_where 22 = .ok (.getfield 44, 3) := by decide +kernel
theorem dX10_where_25 : decode cX10_where 25 = .ok (.getfield 205, 3) := by decide +kernel
theorem dX10_where_28 : decode cX10_where 28 = .ok (.iconst 4, 1) := by decide +kernel
theorem dX10_where_29 : decode cX10_where 29 = .ok (.if_icmp .ge 7, 3) := by decide +kernel
theorem dX10_where_32 : decode cX10_where 32 = .ok (.iconst 1, 1) := by decide +kernel
theorem dX10_where_33 : decode cX10_where 33 = .ok (.goto 4, 3) := by decide +kernel
theorem dX10_where_36 : decode cX10_where 36 = .ok (.iconst 0, 1) := by decide +kernel
theorem dX10_where_37 : decode cX10_where 37 = .ok (.invokestatic 96, 3) := by decide +kernel
theorem dX10_where_40 : decode cX10_where 40 = .ok (.aload_n 0, 1) := by decide +kernel
theorem dX10_where_41 : decode cX10_where 41 = .ok (.getfield 44, 3) := by decide +kernel
theorem dX10_where_44 : decode cX10_where 44 = .ok (.iload_n 1, 1) := by decide +kernel
theorem dX10_where_45 : decode cX10_where 45 = .ok (.iload_n 2, 1) := by decide +kernel
theorem dX10_where_46 : decode cX10_where 46 = .ok (.iload_n 3, 1) := by decide +kernel
theorem dX10_where_47 : decode cX10_where 47 = .ok (.iload 4, 2) := by decide +kernel
theorem dX10_where_49 : decode cX10_where 49 = .ok (.invokevirtual 208, 3) := by decide +kernel
theorem dX10_where_52 : decode cX10_where 52 = .ok (.ireturn, 1) := by decide +kernel
theorem dX10_out_0 : decode cX10_out 0 = .ok (.aload_n 0, 1) := by decide +kernel
theorem dX10_out_1 : decode cX10_out 1 = .ok (.getfield 44, 3) := by decide +kernel
theorem dX10_out_4 : decode cX10_out 4 = .ok (.iload_n 1, 1) := by decide +kernel
theorem dX10_out_5 : decode cX10_out 5 = .ok (.iload_n 2, 1) := by decide +kernel
theorem dX10_out_6 : decode cX10_out 6 = .ok (.invokevirtual 193, 3) := by decide +kernel
theorem dX10_out_9 : decode cX10_out 9 = .ok (.invokestatic 125, 3) := by decide +kernel
theorem dX10_out_12 : decode cX10_out 12 = .ok (.aload_n 0, 1) := by decide +kernel
theorem dX10_out_13 : decode cX10_out 13 = .ok (.getfield 44, 3) := by decide +kernel
theorem dX10_out_16 : decode cX10_out 16 = .ok (.getfield 211, 3) := by decide +kernel
theorem dX10_out_19 : decode cX10_out 19 = .ok (.iconst 3, 1) := by decide +kernel
theorem dX10_out_20 : decode cX10_out 20 = .ok (.if_icmp .ge 7, 3) := by decide +kernel
theorem dX10_out_23 : decode cX10_out 23 = .ok (.iconst 1, 1) := by decide +kernel
theorem dX10_out_24 : decode cX10_out 24 = .ok (.goto 4, 3) := by decide +kernel
theorem dX10_out_27 : decode cX10_out 27 = .ok (.iconst 0, 1) := by decide +kernel
theorem dX10_out_28 : decode cX10_out 28 = .ok (.invokestatic 96, 3) := by decide +kernel
theorem dX10_out_31 : decode cX10_out 31 = .ok (.aload_n 0, 1) := by decide +kernel
theorem dX10_out_32 : decode cX10_out 32 = .ok (.getfield 44, 3) := by decide +kernel
theorem dX10_out_35 : decode cX10_out 35 = .ok (.iload_n 1, 1) := by decide +kernel
theorem dX10_out_36 : decode cX10_out 36 = .ok (.iload_n 2, 1) := by decide +kernel
theorem dX10_out_37 : decode cX10_out 37 = .ok (.invokevirtual 214, 3) := by decide +kernel
theorem dX10_out_40 : decode cX10_out 40 = .ok (.ireturn, 1) := by decide +kernel
theorem dX10_shape_0 : decode cX10_shape 0 = .ok (.iload_n 1, 1) := by decide +kernel
theorem dX10_shape_1 : decode cX10_shape 1 = .ok (.iconst 1, 1) := by decide +kernel
theorem dX10_shape_2 : decode cX10_shape 2 = .ok (.bipush 40, 2) := by decide +kernel
theorem dX10_shape_4 : decode cX10_shape 4 = .ok (.invokestatic 148, 3) := by decide +kernel
theorem dX10_shape_7 : decode cX10_shape 7 = .ok (.invokestatic 88, 3) := by decide +kernel
theorem dX10_shape_10 : decode cX10_shape 10 = .ok (.aload_n 0, 1) := by decide +kernel
theorem dX10_shape_11 : decode cX10_shape 11 = .ok (.getfield 44, 3) := by decide +kernel
theorem dX10_shape_14 : decode cX10_shape 14 = .ok (.iload_n 1, 1) := by decide +kernel
theorem dX10_shape_15 : decode cX10_shape 15 = .ok (.putfield 217, 3) := by decide +kernel
theorem dX10_shape_18 : decode cX10_shape 18 = .ok (.aload_n 0, 1) := by decide +kernel
theorem dX10_shape_19 : decode cX10_shape 19 = .ok (.getfield 44, 3) := by decide +kernel
theorem dX10_shape_22 : decode cX10_shape 22 = .ok (.iload_n 2, 1) := by decide +kernel
theorem dX10_shape_23 : decode cX10_shape 23 = .ok (.putfield 220, 3) := by decide +kernel
theorem dX10_shape_26 : decode cX10_shape 26 = .ok (.return_, 1) := by decide +kernel
theorem dX10_clear_0 : decode cX10_clear 0 = .ok (.aload_n 0, 1) := by decide +kernel
theorem dX10_clear_1 : decode cX10_clear 1 = .ok (.getfield 44, 3) := by decide +kernel
theorem dX10_clear_4 : decode cX10_clear 4 = .ok (.getfield 187, 3) := by decide +kernel
theorem dX10_clear_7 : decode cX10_clear 7 = .ok (.istore_n 1, 1) := by decide +kernel
theorem dX10_clear_8 : decode cX10_clear 8 = .ok (.aload_n 0, 1) := by decide +kernel
theorem dX10_clear_9 : decode cX10_clear 9 = .ok (.getfield 44, 3) := by decide +kernel
theorem dX10_clear_12 : decode cX10_clear 12 = .ok (.invokevirtual 224, 3) := by decide +kernel
theorem dX10_clear_15 : decode cX10_clear 15 = .ok (.iload_n 1, 1) := by decide +kernel
theorem dX10_clear_16 : decode cX10_clear 16 = .ok (.ireturn, 1) := by decide +kernel
theorem dX10_ask_0 : decode cX10_ask 0 = .ok (.iload_n 1, 1) := by decide +kernel
theorem dX10_ask_1 : decode cX10_ask 1 = .ok (.iconst 0, 1) := by decide +kernel
theorem dX10_ask_2 : decode cX10_ask 2 = .ok (.sipush 200, 3) := by decide +kernel
theorem dX10_ask_5 : decode cX10_ask 5 = .ok (.invokestatic 148, 3) := by decide +kernel
theorem dX10_ask_8 : decode cX10_ask 8 = .ok (.ifCond .eq 18, 3) := by decide +kernel
theorem dX10_ask_11 : decode cX10_ask 11 = .ok (.iload_n 2, 1) := by decide +kernel
theorem dX10_ask_12 : decode cX10_ask 12 = .ok (.iconst 0, 1) := by decide +kernel
theorem dX10_ask_13 : decode cX10_ask 13 = .ok (.sipush 200, 3) := by decide +kernel
theorem dX10_ask_16 : decode cX10_ask 16 = .ok (.invokestatic 148, 3) := by decide +kernel
theorem dX10_ask_19 : decode cX10_ask 19 = .ok (.ifCond .eq 7, 3) := by decide +kernel
theorem dX10_ask_22 : decode cX10_ask 22 = .ok (.iconst 1, 1) := by decide +kernel
theorem dX10_ask_23 : decode cX10_ask 23 = .ok (.goto 4, 3) := by decide +kernel
theorem dX10_ask_26 : decode cX10_ask 26 = .ok (.iconst 0, 1) := by decide +kernel
theorem dX10_ask_27 : decode cX10_ask 27 = .ok (.invokestatic 88, 3) := by decide +kernel
theorem dX10_ask_30 : decode cX10_ask 30 = .ok (.aload_n 0, 1) := by decide +kernel
theorem dX10_ask_31 : decode cX10_ask 31 = .ok (.getfield 44, 3) := by decide +kernel
theorem dX10_ask_34 : decode cX10_ask 34 = .ok (.invokevirtual 227, 3) := by decide +kernel
theorem dX10_ask_37 : decode cX10_ask 37 = .ok (.invokestatic 96, 3) := by decide +kernel
theorem dX10_ask_40 : decode cX10_ask 40 = .ok (.aload_n 0, 1) := by decide +kernel
theorem dX10_ask_41 : decode cX10_ask 41 = .ok (.getfield 63, 3) := by decide +kernel
theorem dX10_ask_44 : decode cX10_ask 44 = .ok (.iload_n 1, 1) := by decide +kernel
theorem dX10_ask_45 : decode cX10_ask 45 = .ok (.aload_n 0, 1) := by decide +kernel
theorem dX10_ask_46 : decode cX10_ask 46 = .ok (.getfield 10, 3) := by decide +kernel
theorem dX10_ask_49 : decode cX10_ask 49 = .ok (.getfield 180, 3) := by decide +kernel
theorem dX10_ask_52 : decode cX10_ask 52 = .ok (.iload_n 2, 1) := by decide +kernel
theorem dX10_ask_53 : decode cX10_ask 53 = .ok (.iadd, 1) := by decide +kernel
theorem dX10_ask_54 : decode cX10_ask 54 = .ok (.aload_n 0, 1) := by decide +kernel
theorem dX10_ask_55 : decode cX10_ask 55 = .ok (.getfield 10, 3) := by decide +kernel
theorem dX10_ask_58 : decode cX10_ask 58 = .ok (.getfield 145, 3) := by decide +kernel
theorem dX10_ask_61 : decode cX10_ask 61 = .ok (.invokevirtual 231, 3) := by decide +kernel
theorem dX10_ask_64 : decode cX10_ask 64 = .ok (.iconst 0, 1) := by decide +kernel
theorem dX10_ask_65 : decode cX10_ask 65 = .ok (.istore_n 3, 1) := by decide +kernel
theorem dX10_ask_66 : decode cX10_ask 66 = .ok (.iload_n 3, 1) := by decide +kernel
theorem dX10_ask_67 : decode cX10_ask 67 = .ok (.aload_n 0, 1) := by decide +kernel
theorem dX10_ask_68 : decode cX10_ask 68 = .ok (.getfield 44, 3) := by decide +kernel
theorem dX10_ask_71 : decode cX10_ask 71 = .ok (.getfield 187, 3) := by decide +kernel
theorem dX10_ask_74 : decode cX10_ask 74 = .ok (.if_icmp .ge 23, 3) := by decide +kernel
theorem dX10_ask_77 : decode cX10_ask 77 = .ok (.aload_n 0, 1) := by decide +kernel
theorem dX10_ask_78 : decode cX10_ask 78 = .ok (.getfield 63, 3) := by decide +kernel
theorem dX10_ask_81 : decode cX10_ask 81 = .ok (.aload_n 0, 1) := by decide +kernel
theorem dX10_ask_82 : decode cX10_ask 82 = .ok (.getfield 63, 3) := by decide +kernel
theorem dX10_ask_85 : decode cX10_ask 85 = .ok (.invokevirtual 234, 3) := by decide +kernel
theorem dX10_ask_88 : decode cX10_ask 88 = .ok (.invokevirtual 238, 3) := by decide +kernel
theorem dX10_ask_91 : decode cX10_ask 91 = .ok (.iinc 3 1, 3) := by decide +kernel
theorem dX10_ask_94 : decode cX10_ask 94 = .ok (.goto (-28), 3) := by decide +kernel
theorem dX10_ask_97 : decode cX10_ask 97 = .ok (.aload_n 0, 1) := by decide +kernel
theorem dX10_ask_98 : decode cX10_ask 98 = .ok (.getfield 63, 3) := by decide +kernel
theorem dX10_ask_101 : decode cX10_ask 101 = .ok (.invokevirtual 241, 3) := by decide +kernel
theorem dX10_ask_104 : decode cX10_ask 104 = .ok (.aload_n 0, 1) := by decide +kernel
theorem dX10_ask_105 : decode cX10_ask 105 = .ok (.getfield 51, 3) := by decide +kernel
theorem dX10_ask_108 : decode cX10_ask 108 = .ok (.getfield 244, 3) := by decide +kernel
theorem dX10_ask_111 : decode cX10_ask 111 = .ok (.ireturn, 1) := by decide +kernel
theorem dX10_answers_0 : decode cX10_answers 0 = .ok (.aload_n 0, 1) := by decide +kernel
theorem dX10_answers_1 : decode cX10_answers 1 = .ok (.getfield 51, 3) := by decide +kernel
theorem dX10_answers_4 : decode cX10_answers 4 = .ok (.getfield 244, 3) := by decide +kernel
theorem dX10_answers_7 : decode cX10_answers 7 = .ok (.ireturn, 1) := by decide +kernel
theorem dX10_answer_0 : decode cX10_answer 0 = .ok (.aload_n 0, 1) := by decide +kernel
theorem dX10_answer_1 : decode cX10_answer 1 = .ok (.getfield 51, 3) := by decide +kernel
theorem dX10_answer_4 : decode cX10_answer 4 = .ok (.iload_n 1, 1) := by decide +kernel
theorem dX10_answer_5 : decode cX10_answer 5 = .ok (.iload_n 2, 1) := by decide +kernel
theorem dX10_answer_6 : decode cX10_answer 6 = .ok (.invokevirtual 245, 3) := by decide +kernel
theorem dX10_answer_9 : decode cX10_answer 9 = .ok (.invokestatic 125, 3) := by decide +kernel
theorem dX10_answer_12 : decode cX10_answer 12 = .ok (.aload_n 0, 1) := by decide +kernel
theorem dX10_answer_13 : decode cX10_answer 13 = .ok (.getfield 51, 3) := by decide +kernel
theorem dX10_answer_16 : decode cX10_answer 16 = .ok (.iload_n 1, 1) := by decide +kernel
theorem dX10_answer_17 : decode cX10_answer 17 = .ok (.iload_n 2, 1) := by decide +kernel
theorem dX10_answer_18 : decode cX10_answer 18 = .ok (.invokevirtual 248, 3) := by decide +kernel
theorem dX10_answer_21 : decode cX10_answer 21 = .ok (.ireturn, 1) := by decide +kernel
theorem dX10_missing_0 : decode cX10_missing 0 = .ok (.aload_n 0, 1) := by decide +kernel
theorem dX10_missing_1 : decode cX10_missing 1 = .ok (.getfield 51, 3) := by decide +kernel
theorem dX10_missing_4 : decode cX10_missing 4 = .ok (.getfield 251, 3) := by decide +kernel
theorem dX10_missing_7 : decode cX10_missing 7 = .ok (.ireturn, 1) := by decide +kernel
theorem dX10_claims_0 : decode cX10_claims 0 = .ok (.aload_n 0, 1) := by decide +kernel
theorem dX10_claims_1 : decode cX10_claims 1 = .ok (.getfield 51, 3) := by decide +kernel
theorem dX10_claims_4 : decode cX10_claims 4 = .ok (.getfield 254, 3) := by decide +kernel
theorem dX10_claims_7 : decode cX10_claims 7 = .ok (.ireturn, 1) := by decide +kernel
theorem dX10_cost_0 : decode cX10_cost 0 = .ok (.aload_n 0, 1) := by decide +kernel
theorem dX10_cost_1 : decode cX10_cost 1 = .ok (.getfield 51, 3) := by decide +kernel
theorem dX10_cost_4 : decode cX10_cost 4 = .ok (.getfield 257, 3) := by decide +kernel
theorem dX10_cost_7 : decode cX10_cost 7 = .ok (.ireturn, 1) := by decide +kernel
theorem dX10_attempts_0 : decode cX10_attempts 0 = .ok (.aload_n 0, 1) := by decide +kernel
theorem dX10_attempts_1 : decode cX10_attempts 1 = .ok (.getfield 51, 3) := by decide +kernel
theorem dX10_attempts_4 : decode cX10_attempts 4 = .ok (.getfield 260, 3) := by decide +kernel
theorem dX10_attempts_7 : decode cX10_attempts 7 = .ok (.ireturn, 1) := by decide +kernel
theorem dX10_shipped_0 : decode cX10_shipped 0 = .ok (.aload_n 0, 1) := by decide +kernel
theorem dX10_shipped_1 : decode cX10_shipped 1 = .ok (.getfield 51, 3) := by decide +kernel
theorem dX10_shipped_4 : decode cX10_shipped 4 = .ok (.getfield 263, 3) := by decide +kernel
theorem dX10_shipped_7 : decode cX10_shipped 7 = .ok (.ireturn, 1) := by decide +kernel
theorem dX10_taken_0 : decode cX10_taken 0 = .ok (.iload_n 1, 1) := by decide +kernel
theorem dX10_taken_1 : decode cX10_taken 1 = .ok (.aload_n 0, 1) := by decide +kernel
theorem dX10_taken_2 : decode cX10_taken 2 = .ok (.getfield 51, 3) := by decide +kernel
theorem dX10_taken_5 : decode cX10_taken 5 = .ok (.getfield 266, 3) := by decide +kernel
theorem dX10_taken_8 : decode cX10_taken 8 = .ok (.invokestatic 76, 3) := by decide +kernel
theorem dX10_taken_11 : decode cX10_taken 11 = .ok (.aload_n 0, 1) := by decide +kernel
theorem dX10_taken_12 : decode cX10_taken 12 = .ok (.getfield 51, 3) := by decide +kernel
theorem dX10_taken_15 : decode cX10_taken 15 = .ok (.getfield 269, 3) := by decide +kernel
theorem dX10_taken_18 : decode cX10_taken 18 = .ok (.iload_n 1, 1) := by decide +kernel
theorem dX10_taken_19 : decode cX10_taken 19 = .ok (.iaload, 1) := by decide +kernel
theorem dX10_taken_20 : decode cX10_taken 20 = .ok (.bipush 10, 2) := by decide +kernel
theorem dX10_taken_22 : decode cX10_taken 22 = .ok (.imul, 1) := by decide +kernel
theorem dX10_taken_23 : decode cX10_taken 23 = .ok (.aload_n 0, 1) := by decide +kernel
theorem dX10_taken_24 : decode cX10_taken 24 = .ok (.getfield 51, 3) := by decide +kernel
theorem dX10_taken_27 : decode cX10_taken 27 = .ok (.getfield 272, 3) := by decide +kernel
theorem dX10_taken_30 : decode cX10_taken 30 = .ok (.iload_n 1, 1) := by decide +kernel
theorem dX10_taken_31 : decode cX10_taken 31 = .ok (.iaload, 1) := by decide +kernel
theorem dX10_taken_32 : decode cX10_taken 32 = .ok (.iadd, 1) := by decide +kernel
theorem dX10_taken_33 : decode cX10_taken 33 = .ok (.ireturn, 1) := by decide +kernel
theorem dX10_size_0 : decode cX10_size 0 = .ok (.iload_n 1, 1) := by decide +kernel
theorem dX10_size_1 : decode cX10_size 1 = .ok (.bipush 6, 2) := by decide +kernel
theorem dX10_size_3 : decode cX10_size 3 = .ok (.invokestatic 76, 3) := by decide +kernel
theorem dX10_size_6 : decode cX10_size 6 = .ok (.aload_n 0, 1) := by decide +kernel
theorem dX10_size_7 : decode cX10_size 7 = .ok (.getfield 37, 3) := by decide +kernel
theorem dX10_size_10 : decode cX10_size 10 = .ok (.getfield 275, 3) := by decide +kernel
theorem dX10_size_13 : decode cX10_size 13 = .ok (.iload_n 1, 1) := by decide +kernel
theorem dX10_size_14 : decode cX10_size 14 = .ok (.iaload, 1) := by decide +kernel
theorem dX10_size_15 : decode cX10_size 15 = .ok (.ireturn, 1) := by decide +kernel
theorem dX10_entries_0 : decode cX10_entries 0 = .ok (.aload_n 0, 1) := by decide +kernel
theorem dX10_entries_1 : decode cX10_entries 1 = .ok (.getfield 21, 3) := by decide +kernel
theorem dX10_entries_4 : decode cX10_entries 4 = .ok (.getfield 278, 3) := by decide +kernel
theorem dX10_entries_7 : decode cX10_entries 7 = .ok (.ireturn, 1) := by decide +kernel
theorem dX10_answersAnew_0 : decode cX10_answersAnew 0 = .ok (.aload_n 0, 1) := by decide +kernel
theorem dX10_answersAnew_1 : decode cX10_answersAnew 1 = .ok (.getfield 44, 3) := by decide +kernel
theorem dX10_answersAnew_4 : decode cX10_answersAnew 4 = .ok (.invokevirtual 227, 3) := by decide +kernel
theorem dX10_answersAnew_7 : decode cX10_answersAnew 7 = .ok (.invokestatic 96, 3) := by decide +kernel
theorem dX10_answersAnew_10 : decode cX10_answersAnew 10 = .ok (.aload_n 0, 1) := by decide +kernel
theorem dX10_answersAnew_11 : decode cX10_answersAnew 11 = .ok (.invokevirtual 279, 3) := by decide +kernel
theorem dX10_answersAnew_14 : decode cX10_answersAnew 14 = .ok (.aload_n 0, 1) := by decide +kernel
theorem dX10_answersAnew_15 : decode cX10_answersAnew 15 = .ok (.getfield 55, 3) := by decide +kernel
theorem dX10_answersAnew_18 : decode cX10_answersAnew 18 = .ok (.getfield 244, 3) := by decide +kernel
theorem dX10_answersAnew_21 : decode cX10_answersAnew 21 = .ok (.ireturn, 1) := by decide +kernel
theorem dX10_answerAnew_0 : decode cX10_answerAnew 0 = .ok (.aload_n 0, 1) := by decide +kernel
theorem dX10_answerAnew_1 : decode cX10_answerAnew 1 = .ok (.getfield 44, 3) := by decide +kernel
theorem dX10_answerAnew_4 : decode cX10_answerAnew 4 = .ok (.invokevirtual 227, 3) := by decide +kernel
theorem dX10_answerAnew_7 : decode cX10_answerAnew 7 = .ok (.invokestatic 96, 3) := by decide +kernel
theorem dX10_answerAnew_10 : decode cX10_answerAnew 10 = .ok (.aload_n 0, 1) := by decide +kernel
theorem dX10_answerAnew_11 : decode cX10_answerAnew 11 = .ok (.invokevirtual 279, 3) := by decide +kernel
theorem dX10_answerAnew_14 : decode cX10_answerAnew 14 = .ok (.aload_n 0, 1) := by decide +kernel
theorem dX10_answerAnew_15 : decode cX10_answerAnew 15 = .ok (.getfield 55, 3) := by decide +kernel
theorem dX10_answerAnew_18 : decode cX10_answerAnew 18 = .ok (.iload_n 1, 1) := by decide +kernel
theorem dX10_answerAnew_19 : decode cX10_answerAnew 19 = .ok (.iload_n 2, 1) := by decide +kernel
theorem dX10_answerAnew_20 : decode cX10_answerAnew 20 = .ok (.invokevirtual 245, 3) := by decide +kernel
theorem dX10_answerAnew_23 : decode cX10_answerAnew 23 = .ok (.invokestatic 125, 3) := by decide +kernel
theorem dX10_answerAnew_26 : decode cX10_answerAnew 26 = .ok (.aload_n 0, 1) := by decide +kernel
theorem dX10_answerAnew_27 : decode cX10_answerAnew 27 = .ok (.getfield 55, 3) := by decide +kernel
theorem dX10_answerAnew_30 : decode cX10_answerAnew 30 = .ok (.iload_n 1, 1) := by decide +kernel
theorem dX10_answerAnew_31 : decode cX10_answerAnew 31 = .ok (.iload_n 2, 1) := by decide +kernel
theorem dX10_answerAnew_32 : decode cX10_answerAnew 32 = .ok (.invokevirtual 248, 3) := by decide +kernel
theorem dX10_answerAnew_35 : decode cX10_answerAnew 35 = .ok (.ireturn, 1) := by decide +kernel
theorem dX10_makeAnew_0 : decode cX10_makeAnew 0 = .ok (.iconst 0, 1) := by decide +kernel
theorem dX10_makeAnew_1 : decode cX10_makeAnew 1 = .ok (.istore_n 1, 1) := by decide +kernel
theorem dX10_makeAnew_2 : decode cX10_makeAnew 2 = .ok (.iload_n 1, 1) := by decide +kernel
theorem dX10_makeAnew_3 : decode cX10_makeAnew 3 = .ok (.aload_n 0, 1) := by decide +kernel
theorem dX10_makeAnew_4 : decode cX10_makeAnew 4 = .ok (.getfield 44, 3) := by decide +kernel
theorem dX10_makeAnew_7 : decode cX10_makeAnew 7 = .ok (.getfield 187, 3) := by decide +kernel
theorem dX10_makeAnew_10 : decode cX10_makeAnew 10 = .ok (.if_icmp .ge 50, 3) := by decide +kernel
theorem dX10_makeAnew_13 : decode cX10_makeAnew 13 = .ok (.aload_n 0, 1) := by decide +kernel
theorem dX10_makeAnew_14 : decode cX10_makeAnew 14 = .ok (.getfield 55, 3) := by decide +kernel
theorem dX10_makeAnew_17 : decode cX10_makeAnew 17 = .ok (.getfield 282, 3) := by decide +kernel
theorem dX10_makeAnew_20 : decode cX10_makeAnew 20 = .ok (.iload_n 1, 1) := by decide +kernel
theorem dX10_makeAnew_21 : decode cX10_makeAnew 21 = .ok (.aaload, 1) := by decide +kernel
theorem dX10_makeAnew_22 : decode cX10_makeAnew 22 = .ok (.aload_n 0, 1) := by decide +kernel
theorem dX10_makeAnew_23 : decode cX10_makeAnew 23 = .ok (.getfield 37, 3) := by decide +kernel
theorem dX10_makeAnew_26 : decode cX10_makeAnew 26 = .ok (.getfield 115, 3) := by decide +kernel
theorem dX10_makeAnew_29 : decode cX10_makeAnew 29 = .ok (.aload_n 0, 1) := by decide +kernel
theorem dX10_makeAnew_30 : decode cX10_makeAnew 30 = .ok (.getfield 44, 3) := by decide +kernel
theorem dX10_makeAnew_33 : decode cX10_makeAnew 33 = .ok (.getfield 283, 3) := by decide +kernel
theorem dX10_makeAnew_36 : decode cX10_makeAnew 36 = .ok (.iload_n 1, 1) := by decide +kernel
theorem dX10_makeAnew_37 : decode cX10_makeAnew 37 = .ok (.iaload, 1) := by decide +kernel
theorem dX10_makeAnew_38 : decode cX10_makeAnew 38 = .ok (.aaload, 1) := by decide +kernel
theorem dX10_makeAnew_39 : decode cX10_makeAnew 39 = .ok (.invokevirtual 285, 3) := by decide +kernel
theorem dX10_makeAnew_42 : decode cX10_makeAnew 42 = .ok (.aload_n 0, 1) := by decide +kernel
theorem dX10_makeAnew_43 : decode cX10_makeAnew 43 = .ok (.getfield 55, 3) := by decide +kernel
theorem dX10_makeAnew_46 : decode cX10_makeAnew 46 = .ok (.aload_n 0, 1) := by decide +kernel
theorem dX10_makeAnew_47 : decode cX10_makeAnew 47 = .ok (.getfield 44, 3) := by decide +kernel
theorem dX10_makeAnew_50 : decode cX10_makeAnew 50 = .ok (.iload_n 1, 1) := by decide +kernel
theorem dX10_makeAnew_51 : decode cX10_makeAnew 51 = .ok (.invokevirtual 289, 3) := by decide +kernel
theorem dX10_makeAnew_54 : decode cX10_makeAnew 54 = .ok (.iinc 1 1, 3) := by decide +kernel
theorem dX10_makeAnew_57 : decode cX10_makeAnew 57 = .ok (.goto (-55), 3) := by decide +kernel
theorem dX10_makeAnew_60 : decode cX10_makeAnew 60 = .ok (.aload_n 0, 1) := by decide +kernel
theorem dX10_makeAnew_61 : decode cX10_makeAnew 61 = .ok (.getfield 55, 3) := by decide +kernel
theorem dX10_makeAnew_64 : decode cX10_makeAnew 64 = .ok (.aload_n 0, 1) := by decide +kernel
theorem dX10_makeAnew_65 : decode cX10_makeAnew 65 = .ok (.getfield 44, 3) := by decide +kernel
theorem dX10_makeAnew_68 : decode cX10_makeAnew 68 = .ok (.invokevirtual 293, 3) := by decide +kernel
theorem dX10_makeAnew_71 : decode cX10_makeAnew 71 = .ok (.return_, 1) := by decide +kernel
theorem dX10_step_0 : decode cX10_step 0 = .ok (.iload_n 2, 1) := by decide +kernel
theorem dX10_step_1 : decode cX10_step 1 = .ok (.bipush 6, 2) := by decide +kernel
theorem dX10_step_3 : decode cX10_step 3 = .ok (.invokestatic 76, 3) := by decide +kernel
theorem dX10_step_6 : decode cX10_step 6 = .ok (.iload_n 1, 1) := by decide +kernel
theorem dX10_step_7 : decode cX10_step 7 = .ok (.iload 4, 2) := by decide +kernel
theorem dX10_step_9 : decode cX10_step 9 = .ok (.iload 5, 2) := by decide +kernel
theorem dX10_step_11 : decode cX10_step 11 = .ok (.iload 6, 2) := by decide +kernel
theorem dX10_step_13 : decode cX10_step 13 = .ok (.invokestatic 297, 3) := by decide +kernel
theorem dX10_step_16 : decode cX10_step 16 = .ok (.invokestatic 88, 3) := by decide +kernel
theorem dX10_step_19 : decode cX10_step 19 = .ok (.aload_n 0, 1) := by decide +kernel
theorem dX10_step_20 : decode cX10_step 20 = .ok (.getfield 72, 3) := by decide +kernel
theorem dX10_step_23 : decode cX10_step 23 = .ok (.getfield 301, 3) := by decide +kernel
theorem dX10_step_26 : decode cX10_step 26 = .ok (.iconst 4, 1) := by decide +kernel
theorem dX10_step_27 : decode cX10_step 27 = .ok (.if_icmp .ge 7, 3) := by decide +kernel
theorem dX10_step_30 : decode cX10_step 30 = .ok (.iconst 1, 1) := by decide +kernel
theorem dX10_step_31 : decode cX10_step 31 = .ok (.goto 4, 3) := by decide +kernel
theorem dX10_step_34 : decode cX10_step 34 = .ok (.iconst 0, 1) := by decide +kernel
theorem dX10_step_35 : decode cX10_step 35 = .ok (.invokestatic 96, 3) := by decide +kernel
theorem dX10_step_38 : decode cX10_step 38 = .ok (.aload_n 0, 1) := by decide +kernel
theorem dX10_step_39 : decode cX10_step 39 = .ok (.getfield 72, 3) := by decide +kernel
theorem dX10_step_42 : decode cX10_step 42 = .ok (.iload_n 1, 1) := by decide +kernel
theorem dX10_step_43 : decode cX10_step 43 = .ok (.iload_n 2, 1) := by decide +kernel
theorem dX10_step_44 : decode cX10_step 44 = .ok (.iload_n 3, 1) := by decide +kernel
theorem dX10_step_45 : decode cX10_step 45 = .ok (.iload 4, 2) := by decide +kernel
theorem dX10_step_47 : decode cX10_step 47 = .ok (.iload 5, 2) := by decide +kernel
theorem dX10_step_49 : decode cX10_step 49 = .ok (.iload 6, 2) := by decide +kernel
theorem dX10_step_51 : decode cX10_step 51 = .ok (.invokevirtual 302, 3) := by decide +kernel
theorem dX10_step_54 : decode cX10_step 54 = .ok (.ireturn, 1) := by decide +kernel
theorem dX10_run_0 : decode cX10_run 0 = .ok (.aload_n 0, 1) := by decide +kernel
theorem dX10_run_1 : decode cX10_run 1 = .ok (.getfield 72, 3) := by decide +kernel
theorem dX10_run_4 : decode cX10_run 4 = .ok (.getfield 301, 3) := by decide +kernel
theorem dX10_run_7 : decode cX10_run 7 = .ok (.ifCond .le 7, 3) := by decide +kernel
theorem dX10_run_10 : decode cX10_run 10 = .ok (.iconst 1, 1) := by decide +kernel
theorem dX10_run_11 : decode cX10_run 11 = .ok (.goto 4, 3) := by decide +kernel
theorem dX10_run_14 : decode cX10_run 14 = .ok (.iconst 0, 1) := by decide +kernel
theorem dX10_run_15 : decode cX10_run 15 = .ok (.invokestatic 96, 3) := by decide +kernel
theorem dX10_run_18 : decode cX10_run 18 = .ok (.aload_n 0, 1) := by decide +kernel
theorem dX10_run_19 : decode cX10_run 19 = .ok (.getfield 72, 3) := by decide +kernel
theorem dX10_run_22 : decode cX10_run 22 = .ok (.invokevirtual 306, 3) := by decide +kernel
theorem dX10_run_25 : decode cX10_run 25 = .ok (.ireturn, 1) := by decide +kernel
theorem dX10_needPlace_0 : decode cX10_needPlace 0 = .ok (.iload_n 0, 1) := by decide +kernel
theorem dX10_needPlace_1 : decode cX10_needPlace 1 = .ok (.ifCond .ne 11, 3) := by decide +kernel
theorem dX10_needPlace_4 : decode cX10_needPlace 4 = .ok (.new 309, 3) := by decide +kernel
theorem dX10_needPlace_7 : decode cX10_needPlace 7 = .ok (.dup, 1) := by decide +kernel
theorem dX10_needPlace_8 : decode cX10_needPlace 8 = .ok (.invokespecial 311, 3) := by decide +kernel
theorem dX10_needPlace_11 : decode cX10_needPlace 11 = .ok (.athrow, 1) := by decide +kernel
theorem dX10_needPlace_12 : decode cX10_needPlace 12 = .ok (.return_, 1) := by decide +kernel
theorem dX10_needArgument_0 : decode cX10_needArgument 0 = .ok (.iload_n 0, 1) := by decide +kernel
theorem dX10_needArgument_1 : decode cX10_needArgument 1 = .ok (.ifCond .ne 11, 3) := by decide +kernel
theorem dX10_needArgument_4 : decode cX10_needArgument 4 = .ok (.new 312, 3) := by decide +kernel
theorem dX10_needArgument_7 : decode cX10_needArgument 7 = .ok (.dup, 1) := by decide +kernel
theorem dX10_needArgument_8 : decode cX10_needArgument 8 = .ok (.invokespecial 314, 3) := by decide +kernel
theorem dX10_needArgument_11 : decode cX10_needArgument 11 = .ok (.athrow, 1) := by decide +kernel
theorem dX10_needArgument_12 : decode cX10_needArgument 12 = .ok (.return_, 1) := by decide +kernel
theorem dX10_needState_0 : decode cX10_needState 0 = .ok (.iload_n 0, 1) := by decide +kernel
theorem dX10_needState_1 : decode cX10_needState 1 = .ok (.ifCond .ne 11, 3) := by decide +kernel
theorem dX10_needState_4 : decode cX10_needState 4 = .ok (.new 315, 3) := by decide +kernel
theorem dX10_needState_7 : decode cX10_needState 7 = .ok (.dup, 1) := by decide +kernel
theorem dX10_needState_8 : decode cX10_needState 8 = .ok (.invokespecial 317, 3) := by decide +kernel
theorem dX10_needState_11 : decode cX10_needState 11 = .ok (.athrow, 1) := by decide +kernel
theorem dX10_needState_12 : decode cX10_needState 12 = .ok (.return_, 1) := by decide +kernel
theorem dX10_needIndex_0 : decode cX10_needIndex 0 = .ok (.iload_n 0, 1) := by decide +kernel
theorem dX10_needIndex_1 : decode cX10_needIndex 1 = .ok (.ifCond .lt 12, 3) := by decide +kernel
theorem dX10_needIndex_4 : decode cX10_needIndex 4 = .ok (.iload_n 0, 1) := by decide +kernel
theorem dX10_needIndex_5 : decode cX10_needIndex 5 = .ok (.iload_n 1, 1) := by decide +kernel
theorem dX10_needIndex_6 : decode cX10_needIndex 6 = .ok (.if_icmp .ge 7, 3) := by decide +kernel
theorem dX10_needIndex_9 : decode cX10_needIndex 9 = .ok (.iconst 1, 1) := by decide +kernel
theorem dX10_needIndex_10 : decode cX10_needIndex 10 = .ok (.goto 4, 3) := by decide +kernel
theorem dX10_needIndex_13 : decode cX10_needIndex 13 = .ok (.iconst 0, 1) := by decide +kernel
theorem dX10_needIndex_14 : decode cX10_needIndex 14 = .ok (.invokestatic 125, 3) := by decide +kernel
theorem dX10_needIndex_17 : decode cX10_needIndex 17 = .ok (.return_, 1) := by decide +kernel
theorem dX10_needCell_0 : decode cX10_needCell 0 = .ok (.iload_n 1, 1) := by decide +kernel
theorem dX10_needCell_1 : decode cX10_needCell 1 = .ok (.bipush 6, 2) := by decide +kernel
theorem dX10_needCell_3 : decode cX10_needCell 3 = .ok (.invokestatic 76, 3) := by decide +kernel
theorem dX10_needCell_6 : decode cX10_needCell 6 = .ok (.iload_n 3, 1) := by decide +kernel
theorem dX10_needCell_7 : decode cX10_needCell 7 = .ok (.iload_n 1, 1) := by decide +kernel
theorem dX10_needCell_8 : decode cX10_needCell 8 = .ok (.invokestatic 80, 3) := by decide +kernel
theorem dX10_needCell_11 : decode cX10_needCell 11 = .ok (.invokestatic 318, 3) := by decide +kernel
theorem dX10_needCell_14 : decode cX10_needCell 14 = .ok (.invokestatic 76, 3) := by decide +kernel
theorem dX10_needCell_17 : decode cX10_needCell 17 = .ok (.aload_n 0, 1) := by decide +kernel
theorem dX10_needCell_18 : decode cX10_needCell 18 = .ok (.getfield 37, 3) := by decide +kernel
theorem dX10_needCell_21 : decode cX10_needCell 21 = .ok (.getfield 115, 3) := by decide +kernel
theorem dX10_needCell_24 : decode cX10_needCell 24 = .ok (.iload_n 1, 1) := by decide +kernel
theorem dX10_needCell_25 : decode cX10_needCell 25 = .ok (.aaload, 1) := by decide +kernel
theorem dX10_needCell_26 : decode cX10_needCell 26 = .ok (.iload_n 2, 1) := by decide +kernel
theorem dX10_needCell_27 : decode cX10_needCell 27 = .ok (.invokevirtual 119, 3) := by decide +kernel
theorem dX10_needCell_30 : decode cX10_needCell 30 = .ok (.invokestatic 125, 3) := by decide +kernel
theorem dX10_needCell_33 : decode cX10_needCell 33 = .ok (.return_, 1) := by decide +kernel
theorem dX10_isIn_0 : decode cX10_isIn 0 = .ok (.iload_n 0, 1) := by decide +kernel
theorem dX10_isIn_1 : decode cX10_isIn 1 = .ok (.iload_n 1, 1) := by decide +kernel
theorem dX10_isIn_2 : decode cX10_isIn 2 = .ok (.if_icmp .lt 12, 3) := by decide +kernel
theorem dX10_isIn_5 : decode cX10_isIn 5 = .ok (.iload_n 0, 1) := by decide +kernel
theorem dX10_isIn_6 : decode cX10_isIn 6 = .ok (.iload_n 2, 1) := by decide +kernel
theorem dX10_isIn_7 : decode cX10_isIn 7 = .ok (.if_icmp .gt 7, 3) := by decide +kernel
theorem dX10_isIn_10 : decode cX10_isIn 10 = .ok (.iconst 1, 1) := by decide +kernel
theorem dX10_isIn_11 : decode cX10_isIn 11 = .ok (.goto 4, 3) := by decide +kernel
theorem dX10_isIn_14 : decode cX10_isIn 14 = .ok (.iconst 0, 1) := by decide +kernel
theorem dX10_isIn_15 : decode cX10_isIn 15 = .ok (.ireturn, 1) := by decide +kernel
theorem dX10_isCondition_0 : decode cX10_isCondition 0 = .ok (.iload_n 0, 1) := by decide +kernel
theorem dX10_isCondition_1 : decode cX10_isCondition 1 = .ok (.iconst 3, 1) := by decide +kernel
theorem dX10_isCondition_2 : decode cX10_isCondition 2 = .ok (.if_icmp .eq 8, 3) := by decide +kernel
theorem dX10_isCondition_5 : decode cX10_isCondition 5 = .ok (.iload_n 0, 1) := by decide +kernel
theorem dX10_isCondition_6 : decode cX10_isCondition 6 = .ok (.iconst 4, 1) := by decide +kernel
theorem dX10_isCondition_7 : decode cX10_isCondition 7 = .ok (.if_icmp .ne 13, 3) := by decide +kernel
theorem dX10_isCondition_10 : decode cX10_isCondition 10 = .ok (.iload_n 1, 1) := by decide +kernel
theorem dX10_isCondition_11 : decode cX10_isCondition 11 = .ok (.ifCond .ne 7, 3) := by decide +kernel
theorem dX10_isCondition_14 : decode cX10_isCondition 14 = .ok (.iconst 1, 1) := by decide +kernel
theorem dX10_isCondition_15 : decode cX10_isCondition 15 = .ok (.goto 4, 3) := by decide +kernel
theorem dX10_isCondition_18 : decode cX10_isCondition 18 = .ok (.iconst 0, 1) := by decide +kernel
theorem dX10_isCondition_19 : decode cX10_isCondition 19 = .ok (.ireturn, 1) := by decide +kernel
theorem dX10_isCondition_20 : decode cX10_isCondition 20 = .ok (.iload_n 0, 1) := by decide +kernel
theorem dX10_isCondition_21 : decode cX10_isCondition 21 = .ok (.iconst 0, 1) := by decide +kernel
theorem dX10_isCondition_22 : decode cX10_isCondition 22 = .ok (.iconst 2, 1) := by decide +kernel
theorem dX10_isCondition_23 : decode cX10_isCondition 23 = .ok (.invokestatic 148, 3) := by decide +kernel
theorem dX10_isCondition_26 : decode cX10_isCondition 26 = .ok (.ifCond .eq 20, 3) := by decide +kernel
theorem dX10_isCondition_29 : decode cX10_isCondition 29 = .ok (.iload_n 1, 1) := by decide +kernel
theorem dX10_isCondition_30 : decode cX10_isCondition 30 = .ok (.sipush (-999), 3) := by decide +kernel
theorem dX10_isCondition_33 : decode cX10_isCondition 33 = .ok (.sipush 999, 3) := by decide +kernel
theorem dX10_isCondition_36 : decode cX10_isCondition 36 = .ok (.invokestatic 148, 3) := by decide +kernel
theorem dX10_isCondition_39 : decode cX10_isCondition 39 = .ok (.ifCond .eq 7, 3) := by decide +kernel
theorem dX10_isCondition_42 : decode cX10_isCondition 42 = .ok (.iconst 1, 1) := by decide +kernel
theorem dX10_isCondition_43 : decode cX10_isCondition 43 = .ok (.goto 4, 3) := by decide +kernel
theorem dX10_isCondition_46 : decode cX10_isCondition 46 = .ok (.iconst 0, 1) := by decide +kernel
theorem dX10_isCondition_47 : decode cX10_isCondition 47 = .ok (.ireturn, 1) := by decide +kernel
theorem dX10_isStep_0 : decode cX10_isStep 0 = .ok (.iload_n 0, 1) := by decide +kernel
theorem dX10_isStep_1 : decode cX10_isStep 1 = .ok (.tableswitch 57 0 2 #[27, 29, 39], 27) := by decide +kernel
theorem dX10_isStep_28 : decode cX10_isStep 28 = .ok (.iconst 1, 1) := by decide +kernel
theorem dX10_isStep_29 : decode cX10_isStep 29 = .ok (.ireturn, 1) := by decide +kernel
theorem dX10_isStep_30 : decode cX10_isStep 30 = .ok (.iload_n 3, 1) := by decide +kernel
theorem dX10_isStep_31 : decode cX10_isStep 31 = .ok (.ifCond .ne 7, 3) := by decide +kernel
theorem dX10_isStep_34 : decode cX10_isStep 34 = .ok (.iconst 1, 1) := by decide +kernel
theorem dX10_isStep_35 : decode cX10_isStep 35 = .ok (.goto 4, 3) := by decide +kernel
theorem dX10_isStep_38 : decode cX10_isStep 38 = .ok (.iconst 0, 1) := by decide +kernel
theorem dX10_isStep_39 : decode cX10_isStep 39 = .ok (.ireturn, 1) := by decide +kernel
theorem dX10_isStep_40 : decode cX10_isStep 40 = .ok (.iload_n 1, 1) := by decide +kernel
theorem dX10_isStep_41 : decode cX10_isStep 41 = .ok (.ifCond .ne 15, 3) := by decide +kernel
theorem dX10_isStep_44 : decode cX10_isStep 44 = .ok (.iload_n 2, 1) := by decide +kernel
theorem dX10_isStep_45 : decode cX10_isStep 45 = .ok (.ifCond .ne 11, 3) := by decide +kernel
theorem dX10_isStep_48 : decode cX10_isStep 48 = .ok (.iload_n 3, 1) := by decide +kernel
theorem dX10_isStep_49 : decode cX10_isStep 49 = .ok (.ifCond .ne 7, 3) := by decide +kernel
theorem dX10_isStep_52 : decode cX10_isStep 52 = .ok (.iconst 1, 1) := by decide +kernel
theorem dX10_isStep_53 : decode cX10_isStep 53 = .ok (.goto 4, 3) := by decide +kernel
theorem dX10_isStep_56 : decode cX10_isStep 56 = .ok (.iconst 0, 1) := by decide +kernel
theorem dX10_isStep_57 : decode cX10_isStep 57 = .ok (.ireturn, 1) := by decide +kernel
theorem dX10_isStep_58 : decode cX10_isStep 58 = .ok (.iconst 0, 1) := by decide +kernel
theorem dX10_isStep_59 : decode cX10_isStep 59 = .ok (.ireturn, 1) := by decide +kernel
theorem dX10_storeOf_0 : decode cX10_storeOf 0 = .ok (.iload_n 0, 1) := by decide +kernel
theorem dX10_storeOf_1 : decode cX10_storeOf 1 = .ok (.iconst 2, 1) := by decide +kernel
theorem dX10_storeOf_2 : decode cX10_storeOf 2 = .ok (.idiv, 1) := by decide +kernel
theorem dX10_storeOf_3 : decode cX10_storeOf 3 = .ok (.ireturn, 1) := by decide +kernel
theorem dX10_columnsIn_0 : decode cX10_columnsIn 0 = .ok (.iload_n 0, 1) := by decide +kernel
theorem dX10_columnsIn_1 : decode cX10_columnsIn 1 = .ok (.iconst 1, 1) := by decide +kernel
theorem dX10_columnsIn_2 : decode cX10_columnsIn 2 = .ok (.if_icmp .ne 7, 3) := by decide +kernel
theorem dX10_columnsIn_5 : decode cX10_columnsIn 5 = .ok (.iconst 2, 1) := by decide +kernel
theorem dX10_columnsIn_6 : decode cX10_columnsIn 6 = .ok (.goto 4, 3) := by decide +kernel
theorem dX10_columnsIn_9 : decode cX10_columnsIn 9 = .ok (.iconst 4, 1) := by decide +kernel
theorem dX10_columnsIn_10 : decode cX10_columnsIn 10 = .ok (.ireturn, 1) := by decide +kernel
theorem dX10_isKeyColumn_0 : decode cX10_isKeyColumn 0 = .ok (.iload_n 1, 1) := by decide +kernel
theorem dX10_isKeyColumn_1 : decode cX10_isKeyColumn 1 = .ok (.ifCond .ne 11, 3) := by decide +kernel
theorem dX10_isKeyColumn_4 : decode cX10_isKeyColumn 4 = .ok (.iload_n 0, 1) := by decide +kernel
theorem dX10_isKeyColumn_5 : decode cX10_isKeyColumn 5 = .ok (.ifCond .eq 7, 3) := by decide +kernel
theorem dX10_isKeyColumn_8 : decode cX10_isKeyColumn 8 = .ok (.iconst 1, 1) := by decide +kernel
theorem dX10_isKeyColumn_9 : decode cX10_isKeyColumn 9 = .ok (.goto 4, 3) := by decide +kernel
theorem dX10_isKeyColumn_12 : decode cX10_isKeyColumn 12 = .ok (.iconst 0, 1) := by decide +kernel
theorem dX10_isKeyColumn_13 : decode cX10_isKeyColumn 13 = .ok (.ireturn, 1) := by decide +kernel
theorem dX10_isNumber_0 : decode cX10_isNumber 0 = .ok (.iload_n 0, 1) := by decide +kernel
theorem dX10_isNumber_1 : decode cX10_isNumber 1 = .ok (.sipush 5000, 3) := by decide +kernel
theorem dX10_isNumber_4 : decode cX10_isNumber 4 = .ok (.if_icmp .eq 14, 3) := by decide +kernel
theorem dX10_isNumber_7 : decode cX10_isNumber 7 = .ok (.iload_n 0, 1) := by decide +kernel
theorem dX10_isNumber_8 : decode cX10_isNumber 8 = .ok (.sipush 5001, 3) := by decide +kernel
theorem dX10_isNumber_11 : decode cX10_isNumber 11 = .ok (.if_icmp .eq 7, 3) := by decide +kernel
theorem dX10_isNumber_14 : decode cX10_isNumber 14 = .ok (.iconst 1, 1) := by decide +kernel
theorem dX10_isNumber_15 : decode cX10_isNumber 15 = .ok (.goto 4, 3) := by decide +kernel
theorem dX10_isNumber_18 : decode cX10_isNumber 18 = .ok (.iconst 0, 1) := by decide +kernel
theorem dX10_isNumber_19 : decode cX10_isNumber 19 = .ok (.ireturn, 1) := by decide +kernel
theorem dX10_cellFits_0 : decode cX10_cellFits 0 = .ok (.iload_n 1, 1) := by decide +kernel
theorem dX10_cellFits_1 : decode cX10_cellFits 1 = .ok (.iload_n 0, 1) := by decide +kernel
theorem dX10_cellFits_2 : decode cX10_cellFits 2 = .ok (.invokestatic 318, 3) := by decide +kernel
theorem dX10_cellFits_5 : decode cX10_cellFits 5 = .ok (.if_icmp .lt 13, 3) := by decide +kernel
theorem dX10_cellFits_8 : decode cX10_cellFits 8 = .ok (.iload_n 2, 1) := by decide +kernel
theorem dX10_cellFits_9 : decode cX10_cellFits 9 = .ok (.ifCond .ne 7, 3) := by decide +kernel
theorem dX10_cellFits_12 : decode cX10_cellFits 12 = .ok (.iconst 1, 1) := by decide +kernel
theorem dX10_cellFits_13 : decode cX10_cellFits 13 = .ok (.goto 4, 3) := by decide +kernel
theorem dX10_cellFits_16 : decode cX10_cellFits 16 = .ok (.iconst 0, 1) := by decide +kernel
theorem dX10_cellFits_17 : decode cX10_cellFits 17 = .ok (.ireturn, 1) := by decide +kernel
theorem dX10_cellFits_18 : decode cX10_cellFits 18 = .ok (.iload_n 0, 1) := by decide +kernel
theorem dX10_cellFits_19 : decode cX10_cellFits 19 = .ok (.iload_n 1, 1) := by decide +kernel
theorem dX10_cellFits_20 : decode cX10_cellFits 20 = .ok (.invokestatic 321, 3) := by decide +kernel
theorem dX10_cellFits_23 : decode cX10_cellFits 23 = .ok (.ifCond .eq 11, 3) := by decide +kernel
theorem dX10_cellFits_26 : decode cX10_cellFits 26 = .ok (.iload_n 2, 1) := by decide +kernel
theorem dX10_cellFits_27 : decode cX10_cellFits 27 = .ok (.iconst 0, 1) := by decide +kernel
theorem dX10_cellFits_28 : decode cX10_cellFits 28 = .ok (.bipush 99, 2) := by decide +kernel
theorem dX10_cellFits_30 : decode cX10_cellFits 30 = .ok (.invokestatic 148, 3) := by decide +kernel
theorem dX10_cellFits_33 : decode cX10_cellFits 33 = .ok (.ireturn, 1) := by decide +kernel
theorem dX10_cellFits_34 : decode cX10_cellFits 34 = .ok (.iload_n 2, 1) := by decide +kernel
theorem dX10_cellFits_35 : decode cX10_cellFits 35 = .ok (.sipush 5001, 3) := by decide +kernel
theorem dX10_cellFits_38 : decode cX10_cellFits 38 = .ok (.if_icmp .ne 14, 3) := by decide +kernel
theorem dX10_cellFits_41 : decode cX10_cellFits 41 = .ok (.iload_n 0, 1) := by decide +kernel
theorem dX10_cellFits_42 : decode cX10_cellFits 42 = .ok (.iconst 2, 1) := by decide +kernel
theorem dX10_cellFits_43 : decode cX10_cellFits 43 = .ok (.if_icmp .ne 7, 3) := by decide +kernel
theorem dX10_cellFits_46 : decode cX10_cellFits 46 = .ok (.iconst 1, 1) := by decide +kernel
theorem dX10_cellFits_47 : decode cX10_cellFits 47 = .ok (.goto 4, 3) := by decide +kernel
theorem dX10_cellFits_50 : decode cX10_cellFits 50 = .ok (.iconst 0, 1) := by decide +kernel
theorem dX10_cellFits_51 : decode cX10_cellFits 51 = .ok (.ireturn, 1) := by decide +kernel
theorem dX10_cellFits_52 : decode cX10_cellFits 52 = .ok (.iload_n 2, 1) := by decide +kernel
theorem dX10_cellFits_53 : decode cX10_cellFits 53 = .ok (.sipush 5000, 3) := by decide +kernel
theorem dX10_cellFits_56 : decode cX10_cellFits 56 = .ok (.if_icmp .eq 16, 3) := by decide +kernel
theorem dX10_cellFits_59 : decode cX10_cellFits 59 = .ok (.iload_n 2, 1) := by decide +kernel
theorem dX10_cellFits_60 : decode cX10_cellFits 60 = .ok (.sipush (-999), 3) := by decide +kernel
theorem dX10_cellFits_63 : decode cX10_cellFits 63 = .ok (.sipush 999, 3) := by decide +kernel
theorem dX10_cellFits_66 : decode cX10_cellFits 66 = .ok (.invokestatic 148, 3) := by decide +kernel
theorem dX10_cellFits_69 : decode cX10_cellFits 69 = .ok (.ifCond .eq 7, 3) := by decide +kernel
theorem dX10_cellFits_72 : decode cX10_cellFits 72 = .ok (.iconst 1, 1) := by decide +kernel
theorem dX10_cellFits_73 : decode cX10_cellFits 73 = .ok (.goto 4, 3) := by decide +kernel
theorem dX10_cellFits_76 : decode cX10_cellFits 76 = .ok (.iconst 0, 1) := by decide +kernel
theorem dX10_cellFits_77 : decode cX10_cellFits 77 = .ok (.ireturn, 1) := by decide +kernel
theorem dX10_rowFits_0 : decode cX10_rowFits 0 = .ok (.iload_n 0, 1) := by decide +kernel
theorem dX10_rowFits_1 : decode cX10_rowFits 1 = .ok (.iconst 0, 1) := by decide +kernel
theorem dX10_rowFits_2 : decode cX10_rowFits 2 = .ok (.iload_n 1, 1) := by decide +kernel
theorem dX10_rowFits_3 : decode cX10_rowFits 3 = .ok (.invokestatic 324, 3) := by decide +kernel
theorem dX10_rowFits_6 : decode cX10_rowFits 6 = .ok (.ifCond .eq 35, 3) := by decide +kernel
theorem dX10_rowFits_9 : decode cX10_rowFits 9 = .ok (.iload_n 0, 1) := by decide +kernel
theorem dX10_rowFits_10 : decode cX10_rowFits 10 = .ok (.iconst 1, 1) := by decide +kernel
theorem dX10_rowFits_11 : decode cX10_rowFits 11 = .ok (.iload_n 2, 1) := by decide +kernel
theorem dX10_rowFits_12 : decode cX10_rowFits 12 = .ok (.invokestatic 324, 3) := by decide +kernel
theorem dX10_rowFits_15 : decode cX10_rowFits 15 = .ok (.ifCond .eq 26, 3) := by decide +kernel
theorem dX10_rowFits_18 : decode cX10_rowFits 18 = .ok (.iload_n 0, 1) := by decide +kernel
theorem dX10_rowFits_19 : decode cX10_rowFits 19 = .ok (.iconst 2, 1) := by decide +kernel
theorem dX10_rowFits_20 : decode cX10_rowFits 20 = .ok (.iload_n 3, 1) := by decide +kernel
theorem dX10_rowFits_21 : decode cX10_rowFits 21 = .ok (.invokestatic 324, 3) := by decide +kernel
theorem dX10_rowFits_24 : decode cX10_rowFits 24 = .ok (.ifCond .eq 17, 3) := by decide +kernel
theorem dX10_rowFits_27 : decode cX10_rowFits 27 = .ok (.iload_n 0, 1) := by decide +kernel
theorem dX10_rowFits_28 : decode cX10_rowFits 28 = .ok (.iconst 3, 1) := by decide +kernel
theorem dX10_rowFits_29 : decode cX10_rowFits 29 = .ok (.iload 4, 2) := by decide +kernel
theorem dX10_rowFits_31 : decode cX10_rowFits 31 = .ok (.invokestatic 324, 3) := by decide +kernel
theorem dX10_rowFits_34 : decode cX10_rowFits 34 = .ok (.ifCond .eq 7, 3) := by decide +kernel
theorem dX10_rowFits_37 : decode cX10_rowFits 37 = .ok (.iconst 1, 1) := by decide +kernel
theorem dX10_rowFits_38 : decode cX10_rowFits 38 = .ok (.goto 4, 3) := by decide +kernel
theorem dX10_rowFits_41 : decode cX10_rowFits 41 = .ok (.iconst 0, 1) := by decide +kernel
theorem dX10_rowFits_42 : decode cX10_rowFits 42 = .ok (.ireturn, 1) := by decide +kernel
theorem dX10_mayChangeTo_0 : decode cX10_mayChangeTo 0 = .ok (.iload_n 0, 1) := by decide +kernel
theorem dX10_mayChangeTo_1 : decode cX10_mayChangeTo 1 = .ok (.iload_n 1, 1) := by decide +kernel
theorem dX10_mayChangeTo_2 : decode cX10_mayChangeTo 2 = .ok (.invokestatic 321, 3) := by decide +kernel
theorem dX10_mayChangeTo_5 : decode cX10_mayChangeTo 5 = .ok (.ifCond .ne 16, 3) := by decide +kernel
theorem dX10_mayChangeTo_8 : decode cX10_mayChangeTo 8 = .ok (.iload_n 0, 1) := by decide +kernel
theorem dX10_mayChangeTo_9 : decode cX10_mayChangeTo 9 = .ok (.iload_n 1, 1) := by decide +kernel
theorem dX10_mayChangeTo_10 : decode cX10_mayChangeTo 10 = .ok (.iload_n 2, 1) := by decide +kernel
theorem dX10_mayChangeTo_11 : decode cX10_mayChangeTo 11 = .ok (.invokestatic 324, 3) := by decide +kernel
theorem dX10_mayChangeTo_14 : decode cX10_mayChangeTo 14 = .ok (.ifCond .eq 7, 3) := by decide +kernel
theorem dX10_mayChangeTo_17 : decode cX10_mayChangeTo 17 = .ok (.iconst 1, 1) := by decide +kernel
theorem dX10_mayChangeTo_18 : decode cX10_mayChangeTo 18 = .ok (.goto 4, 3) := by decide +kernel
theorem dX10_mayChangeTo_21 : decode cX10_mayChangeTo 21 = .ok (.iconst 0, 1) := by decide +kernel
theorem dX10_mayChangeTo_22 : decode cX10_mayChangeTo 22 = .ok (.ireturn, 1) := by decide +kernel
theorem dX10_canDo_0 : decode cX10_canDo 0 = .ok (.iload_n 0, 1) := by decide +kernel
theorem dX10_canDo_1 : decode cX10_canDo 1 = .ok (.lookupswitch 53 #[(0, 27), (1, 38)], 27) := by decide +kernel
theorem dX10_canDo_28 : decode cX10_canDo 28 = .ok (.iload_n 2, 1) := by decide +kernel
theorem dX10_canDo_29 : decode cX10_canDo 29 = .ok (.iconst 4, 1) := by decide +kernel
theorem dX10_canDo_30 : decode cX10_canDo 30 = .ok (.if_icmp .eq 7, 3) := by decide +kernel
theorem dX10_canDo_33 : decode cX10_canDo 33 = .ok (.iconst 1, 1) := by decide +kernel
theorem dX10_canDo_34 : decode cX10_canDo 34 = .ok (.goto 4, 3) := by decide +kernel
theorem dX10_canDo_37 : decode cX10_canDo 37 = .ok (.iconst 0, 1) := by decide +kernel
theorem dX10_canDo_38 : decode cX10_canDo 38 = .ok (.ireturn, 1) := by decide +kernel
theorem dX10_canDo_39 : decode cX10_canDo 39 = .ok (.iload_n 1, 1) := by decide +kernel
theorem dX10_canDo_40 : decode cX10_canDo 40 = .ok (.ifCond .ne 12, 3) := by decide +kernel
theorem dX10_canDo_43 : decode cX10_canDo 43 = .ok (.iload_n 2, 1) := by decide +kernel
theorem dX10_canDo_44 : decode cX10_canDo 44 = .ok (.iconst 2, 1) := by decide +kernel
theorem dX10_canDo_45 : decode cX10_canDo 45 = .ok (.if_icmp .gt 7, 3) := by decide +kernel
theorem dX10_canDo_48 : decode cX10_canDo 48 = .ok (.iconst 1, 1) := by decide +kernel
theorem dX10_canDo_49 : decode cX10_canDo 49 = .ok (.goto 4, 3) := by decide +kernel
theorem dX10_canDo_52 : decode cX10_canDo 52 = .ok (.iconst 0, 1) := by decide +kernel
theorem dX10_canDo_53 : decode cX10_canDo 53 = .ok (.ireturn, 1) := by decide +kernel
theorem dX10_canDo_54 : decode cX10_canDo 54 = .ok (.iload_n 2, 1) := by decide +kernel
theorem dX10_canDo_55 : decode cX10_canDo 55 = .ok (.ifCond .eq 17, 3) := by decide +kernel
theorem dX10_canDo_58 : decode cX10_canDo 58 = .ok (.iload_n 2, 1) := by decide +kernel
theorem dX10_canDo_59 : decode cX10_canDo 59 = .ok (.iconst 4, 1) := by decide +kernel
theorem dX10_canDo_60 : decode cX10_canDo 60 = .ok (.if_icmp .eq 12, 3) := by decide +kernel
theorem dX10_canDo_63 : decode cX10_canDo 63 = .ok (.iload_n 1, 1) := by decide +kernel
theorem dX10_canDo_64 : decode cX10_canDo 64 = .ok (.ifCond .ne 12, 3) := by decide +kernel
theorem dX10_canDo_67 : decode cX10_canDo 67 = .ok (.iload_n 2, 1) := by decide +kernel
theorem dX10_canDo_68 : decode cX10_canDo 68 = .ok (.iconst 2, 1) := by decide +kernel
theorem dX10_canDo_69 : decode cX10_canDo 69 = .ok (.if_icmp .gt 7, 3) := by decide +kernel
theorem dX10_canDo_72 : decode cX10_canDo 72 = .ok (.iconst 1, 1) := by decide +kernel
theorem dX10_canDo_73 : decode cX10_canDo 73 = .ok (.goto 4, 3) := by decide +kernel
theorem dX10_canDo_76 : decode cX10_canDo 76 = .ok (.iconst 0, 1) := by decide +kernel
theorem dX10_canDo_77 : decode cX10_canDo 77 = .ok (.ireturn, 1) := by decide +kernel
theorem dX10_holdsFor_0 : decode cX10_holdsFor 0 = .ok (.iload_n 0, 1) := by decide +kernel
theorem dX10_holdsFor_1 : decode cX10_holdsFor 1 = .ok (.tableswitch 91 0 3 #[31, 42, 60, 78], 31) := by decide +kernel
theorem dX10_holdsFor_32 : decode cX10_holdsFor 32 = .ok (.iload_n 2, 1) := by decide +kernel
theorem dX10_holdsFor_33 : decode cX10_holdsFor 33 = .ok (.iload_n 1, 1) := by decide +kernel
theorem dX10_holdsFor_34 : decode cX10_holdsFor 34 = .ok (.if_icmp .ne 7, 3) := by decide +kernel
theorem dX10_holdsFor_37 : decode cX10_holdsFor 37 = .ok (.iconst 1, 1) := by decide +kernel
theorem dX10_holdsFor_38 : decode cX10_holdsFor 38 = .ok (.goto 4, 3) := by decide +kernel
theorem dX10_holdsFor_41 : decode cX10_holdsFor 41 = .ok (.iconst 0, 1) := by decide +kernel
theorem dX10_holdsFor_42 : decode cX10_holdsFor 42 = .ok (.ireturn, 1) := by decide +kernel
theorem dX10_holdsFor_43 : decode cX10_holdsFor 43 = .ok (.iload_n 2, 1) := by decide +kernel
theorem dX10_holdsFor_44 : decode cX10_holdsFor 44 = .ok (.invokestatic 327, 3) := by decide +kernel
theorem dX10_holdsFor_47 : decode cX10_holdsFor 47 = .ok (.ifCond .eq 12, 3) := by decide +kernel
theorem dX10_holdsFor_50 : decode cX10_holdsFor 50 = .ok (.iload_n 2, 1) := by decide +kernel
theorem dX10_holdsFor_51 : decode cX10_holdsFor 51 = .ok (.iload_n 1, 1) := by decide +kernel
theorem dX10_holdsFor_52 : decode cX10_holdsFor 52 = .ok (.if_icmp .ge 7, 3) := by decide +kernel
theorem dX10_holdsFor_55 : decode cX10_holdsFor 55 = .ok (.iconst 1, 1) := by decide +kernel
theorem dX10_holdsFor_56 : decode cX10_holdsFor 56 = .ok (.goto 4, 3) := by decide +kernel
theorem dX10_holdsFor_59 : decode cX10_holdsFor 59 = .ok (.iconst 0, 1) := by decide +kernel
theorem dX10_holdsFor_60 : decode cX10_holdsFor 60 = .ok (.ireturn, 1) := by decide +kernel
theorem dX10_holdsFor_61 : decode cX10_holdsFor 61 = .ok (.iload_n 2, 1) := by decide +kernel
theorem dX10_holdsFor_62 : decode cX10_holdsFor 62 = .ok (.invokestatic 327, 3) := by decide +kernel
theorem dX10_holdsFor_65 : decode cX10_holdsFor 65 = .ok (.ifCond .eq 12, 3) := by decide +kernel
theorem dX10_holdsFor_68 : decode cX10_holdsFor 68 = .ok (.iload_n 2, 1) := by decide +kernel
theorem dX10_holdsFor_69 : decode cX10_holdsFor 69 = .ok (.iload_n 1, 1) := by decide +kernel
theorem dX10_holdsFor_70 : decode cX10_holdsFor 70 = .ok (.if_icmp .le 7, 3) := by decide +kernel
theorem dX10_holdsFor_73 : decode cX10_holdsFor 73 = .ok (.iconst 1, 1) := by decide +kernel
theorem dX10_holdsFor_74 : decode cX10_holdsFor 74 = .ok (.goto 4, 3) := by decide +kernel
theorem dX10_holdsFor_77 : decode cX10_holdsFor 77 = .ok (.iconst 0, 1) := by decide +kernel
theorem dX10_holdsFor_78 : decode cX10_holdsFor 78 = .ok (.ireturn, 1) := by decide +kernel
theorem dX10_holdsFor_79 : decode cX10_holdsFor 79 = .ok (.iload_n 2, 1) := by decide +kernel
theorem dX10_holdsFor_80 : decode cX10_holdsFor 80 = .ok (.sipush 5000, 3) := by decide +kernel
theorem dX10_holdsFor_83 : decode cX10_holdsFor 83 = .ok (.if_icmp .ne 7, 3) := by decide +kernel
