theorem dX0_init_0 : decode cX0_init 0 = .ok (.aload_n 0, 1) := by decide +kernel
theorem dX0_init_1 : decode cX0_init 1 = .ok (.invokespecial 3, 3) := by decide +kernel
theorem dX0_init_4 : decode cX0_init 4 = .ok (.aload_n 0, 1) := by decide +kernel
theorem dX0_init_5 : decode cX0_init 5 = .ok (.iload_n 1, 1) := by decide +kernel
theorem dX0_init_6 : decode cX0_init 6 = .ok (.putfield 9, 3) := by decide +kernel
theorem dX0_init_9 : decode cX0_init 9 = .ok (.return_, 1) := by decide +kernel
theorem dX0_kindNumber_0 : decode cX0_kindNumber 0 = .ok (.iconst 1, 1) := by decide +kernel
theorem dX0_kindNumber_1 : decode cX0_kindNumber 1 = .ok (.ireturn, 1) := by decide +kernel
theorem dX0_wants_0 : decode cX0_wants 0 = .ok (.aload_n 0, 1) := by decide +kernel
theorem dX0_wants_1 : decode cX0_wants 1 = .ok (.getfield 9, 3) := by decide +kernel
theorem dX0_wants_4 : decode cX0_wants 4 = .ok (.iload_n 1, 1) := by decide +kernel
theorem dX0_wants_5 : decode cX0_wants 5 = .ok (.isub, 1) := by decide +kernel
theorem dX0_wants_6 : decode cX0_wants 6 = .ok (.ireturn, 1) := by decide +kernel
theorem dX0_topMark_0 : decode cX0_topMark 0 = .ok (.aload_n 0, 1) := by decide +kernel
theorem dX0_topMark_1 : decode cX0_topMark 1 = .ok (.getfield 9, 3) := by decide +kernel
theorem dX0_topMark_4 : decode cX0_topMark 4 = .ok (.ireturn, 1) := by decide +kernel
theorem dX1_init_0 : decode cX1_init 0 = .ok (.aload_n 0, 1) := by decide +kernel
theorem dX1_init_1 : decode cX1_init 1 = .ok (.invokespecial 3, 3) := by decide +kernel
theorem dX1_init_4 : decode cX1_init 4 = .ok (.aload_n 0, 1) := by decide +kernel
theorem dX1_init_5 : decode cX1_init 5 = .ok (.bipush 7, 2) := by decide +kernel
theorem dX1_init_7 : decode cX1_init 7 = .ok (.newarray .int, 2) := by decide +kernel
theorem dX1_init_9 : decode cX1_init 9 = .ok (.putfield 9, 3) := by decide +kernel
theorem dX1_init_12 : decode cX1_init 12 = .ok (.return_, 1) := by decide +kernel
theorem dX1_open_0 : decode cX1_open 0 = .ok (.aload_n 0, 1) := by decide +kernel
theorem dX1_open_1 : decode cX1_open 1 = .ok (.iconst 1, 1) := by decide +kernel
theorem dX1_open_2 : decode cX1_open 2 = .ok (.putfield 15, 3) := by decide +kernel
theorem dX1_open_5 : decode cX1_open 5 = .ok (.iconst 0, 1) := by decide +kernel
theorem dX1_open_6 : decode cX1_open 6 = .ok (.istore_n 1, 1) := by decide +kernel
theorem dX1_open_7 : decode cX1_open 7 = .ok (.iload_n 1, 1) := by decide +kernel
theorem dX1_open_8 : decode cX1_open 8 = .ok (.aload_n 0, 1) := by decide +kernel
theorem dX1_open_9 : decode cX1_open 9 = .ok (.getfield 9, 3) := by decide +kernel
theorem dX1_open_12 : decode cX1_open 12 = .ok (.arraylength, 1) := by decide +kernel
theorem dX1_open_13 : decode cX1_open 13 = .ok (.if_icmp .ge 16, 3) := by decide +kernel
theorem dX1_open_16 : decode cX1_open 16 = .ok (.aload_n 0, 1) := by decide +kernel
theorem dX1_open_17 : decode cX1_open 17 = .ok (.getfield 9, 3) := by decide +kernel
theorem dX1_open_20 : decode cX1_open 20 = .ok (.iload_n 1, 1) := by decide +kernel
theorem dX1_open_21 : decode cX1_open 21 = .ok (.iconst 0, 1) := by decide +kernel
theorem dX1_open_22 : decode cX1_open 22 = .ok (.iastore, 1) := by decide +kernel
theorem dX1_open_23 : decode cX1_open 23 = .ok (.iinc 1 1, 3) := by decide +kernel
theorem dX1_open_26 : decode cX1_open 26 = .ok (.goto (-19), 3) := by decide +kernel
theorem dX1_open_29 : decode cX1_open 29 = .ok (.return_, 1) := by decide +kernel
theorem dX1_weightOf_0 : decode cX1_weightOf 0 = .ok (.iload_n 1, 1) := by decide +kernel
theorem dX1_weightOf_1 : decode cX1_weightOf 1 = .ok (.ifCond .lt 21, 3) := by decide +kernel
theorem dX1_weightOf_4 : decode cX1_weightOf 4 = .ok (.iload_n 1, 1) := by decide +kernel
theorem dX1_weightOf_5 : decode cX1_weightOf 5 = .ok (.aload_n 0, 1) := by decide +kernel
theorem dX1_weightOf_6 : decode cX1_weightOf 6 = .ok (.getfield 9, 3) := by decide +kernel
theorem dX1_weightOf_9 : decode cX1_weightOf 9 = .ok (.arraylength, 1) := by decide +kernel
theorem dX1_weightOf_10 : decode cX1_weightOf 10 = .ok (.if_icmp .ge 12, 3) := by decide +kernel
theorem dX1_weightOf_13 : decode cX1_weightOf 13 = .ok (.aload_n 0, 1) := by decide +kernel
theorem dX1_weightOf_14 : decode cX1_weightOf 14 = .ok (.getfield 9, 3) := by decide +kernel
theorem dX1_weightOf_17 : decode cX1_weightOf 17 = .ok (.iload_n 1, 1) := by decide +kernel
theorem dX1_weightOf_18 : decode cX1_weightOf 18 = .ok (.iaload, 1) := by decide +kernel
theorem dX1_weightOf_19 : decode cX1_weightOf 19 = .ok (.goto 4, 3) := by decide +kernel
theorem dX1_weightOf_22 : decode cX1_weightOf 22 = .ok (.iconst 0, 1) := by decide +kernel
theorem dX1_weightOf_23 : decode cX1_weightOf 23 = .ok (.ireturn, 1) := by decide +kernel
theorem dX1_weightOfAll_0 : decode cX1_weightOfAll 0 = .ok (.iconst 0, 1) := by decide +kernel
theorem dX1_weightOfAll_1 : decode cX1_weightOfAll 1 = .ok (.istore_n 1, 1) := by decide +kernel
theorem dX1_weightOfAll_2 : decode cX1_weightOfAll 2 = .ok (.iconst 0, 1) := by decide +kernel
theorem dX1_weightOfAll_3 : decode cX1_weightOfAll 3 = .ok (.istore_n 2, 1) := by decide +kernel
theorem dX1_weightOfAll_4 : decode cX1_weightOfAll 4 = .ok (.iload_n 2, 1) := by decide +kernel
theorem dX1_weightOfAll_5 : decode cX1_weightOfAll 5 = .ok (.aload_n 0, 1) := by decide +kernel
theorem dX1_weightOfAll_6 : decode cX1_weightOfAll 6 = .ok (.getfield 9, 3) := by decide +kernel
theorem dX1_weightOfAll_9 : decode cX1_weightOfAll 9 = .ok (.arraylength, 1) := by decide +kernel
theorem dX1_weightOfAll_10 : decode cX1_weightOfAll 10 = .ok (.if_icmp .ge 18, 3) := by decide +kernel
theorem dX1_weightOfAll_13 : decode cX1_weightOfAll 13 = .ok (.iload_n 1, 1) := by decide +kernel
theorem dX1_weightOfAll_14 : decode cX1_weightOfAll 14 = .ok (.aload_n 0, 1) := by decide +kernel
theorem dX1_weightOfAll_15 : decode cX1_weightOfAll 15 = .ok (.getfield 9, 3) := by decide +kernel
theorem dX1_weightOfAll_18 : decode cX1_weightOfAll 18 = .ok (.iload_n 2, 1) := by decide +kernel
theorem dX1_weightOfAll_19 : decode cX1_weightOfAll 19 = .ok (.iaload, 1) := by decide +kernel
theorem dX1_weightOfAll_20 : decode cX1_weightOfAll 20 = .ok (.iadd, 1) := by decide +kernel
theorem dX1_weightOfAll_21 : decode cX1_weightOfAll 21 = .ok (.istore_n 1, 1) := by decide +kernel
theorem dX1_weightOfAll_22 : decode cX1_weightOfAll 22 = .ok (.iinc 2 1, 3) := by decide +kernel
theorem dX1_weightOfAll_25 : decode cX1_weightOfAll 25 = .ok (.goto (-21), 3) := by decide +kernel
theorem dX1_weightOfAll_28 : decode cX1_weightOfAll 28 = .ok (.iload_n 1, 1) := by decide +kernel
theorem dX1_weightOfAll_29 : decode cX1_weightOfAll 29 = .ok (.ireturn, 1) := by decide +kernel
theorem dX1_weightedDemands_0 : decode cX1_weightedDemands 0 = .ok (.iconst 0, 1) := by decide +kernel
theorem dX1_weightedDemands_1 : decode cX1_weightedDemands 1 = .ok (.istore_n 1, 1) := by decide +kernel
theorem dX1_weightedDemands_2 : decode cX1_weightedDemands 2 = .ok (.iconst 0, 1) := by decide +kernel
theorem dX1_weightedDemands_3 : decode cX1_weightedDemands 3 = .ok (.istore_n 2, 1) := by decide +kernel
theorem dX1_weightedDemands_4 : decode cX1_weightedDemands 4 = .ok (.iload_n 2, 1) := by decide +kernel
theorem dX1_weightedDemands_5 : decode cX1_weightedDemands 5 = .ok (.aload_n 0, 1) := by decide +kernel
theorem dX1_weightedDemands_6 : decode cX1_weightedDemands 6 = .ok (.getfield 9, 3) := by decide +kernel
theorem dX1_weightedDemands_9 : decode cX1_weightedDemands 9 = .ok (.arraylength, 1) := by decide +kernel
theorem dX1_weightedDemands_10 : decode cX1_weightedDemands 10 = .ok (.if_icmp .ge 20, 3) := by decide +kernel
theorem dX1_weightedDemands_13 : decode cX1_weightedDemands 13 = .ok (.iload_n 1, 1) := by decide +kernel
theorem dX1_weightedDemands_14 : decode cX1_weightedDemands 14 = .ok (.iload_n 2, 1) := by decide +kernel
theorem dX1_weightedDemands_15 : decode cX1_weightedDemands 15 = .ok (.aload_n 0, 1) := by decide +kernel
theorem dX1_weightedDemands_16 : decode cX1_weightedDemands 16 = .ok (.getfield 9, 3) := by decide +kernel
theorem dX1_weightedDemands_19 : decode cX1_weightedDemands 19 = .ok (.iload_n 2, 1) := by decide +kernel
theorem dX1_weightedDemands_20 : decode cX1_weightedDemands 20 = .ok (.iaload, 1) := by decide +kernel
theorem dX1_weightedDemands_21 : decode cX1_weightedDemands 21 = .ok (.imul, 1) := by decide +kernel
theorem dX1_weightedDemands_22 : decode cX1_weightedDemands 22 = .ok (.iadd, 1) := by decide +kernel
theorem dX1_weightedDemands_23 : decode cX1_weightedDemands 23 = .ok (.istore_n 1, 1) := by decide +kernel
theorem dX1_weightedDemands_24 : decode cX1_weightedDemands 24 = .ok (.iinc 2 1, 3) := by decide +kernel
theorem dX1_weightedDemands_27 : decode cX1_weightedDemands 27 = .ok (.goto (-23), 3) := by decide +kernel
theorem dX1_weightedDemands_30 : decode cX1_weightedDemands 30 = .ok (.iload_n 1, 1) := by decide +kernel
theorem dX1_weightedDemands_31 : decode cX1_weightedDemands 31 = .ok (.ireturn, 1) := by decide +kernel
theorem dX2_init_0 : decode cX2_init 0 = .ok (.aload_n 0, 1) := by decide +kernel
theorem dX2_init_1 : decode cX2_init 1 = .ok (.invokespecial 3, 3) := by decide +kernel
theorem dX2_init_4 : decode cX2_init 4 = .ok (.aload_n 0, 1) := by decide +kernel
theorem dX2_init_5 : decode cX2_init 5 = .ok (.iload_n 1, 1) := by decide +kernel
theorem dX2_init_6 : decode cX2_init 6 = .ok (.putfield 9, 3) := by decide +kernel
theorem dX2_init_9 : decode cX2_init 9 = .ok (.aload_n 0, 1) := by decide +kernel
theorem dX2_init_10 : decode cX2_init 10 = .ok (.iload_n 2, 1) := by decide +kernel
theorem dX2_init_11 : decode cX2_init 11 = .ok (.putfield 15, 3) := by decide +kernel
theorem dX2_init_14 : decode cX2_init 14 = .ok (.return_, 1) := by decide +kernel
theorem dX2_kindNumber_0 : decode cX2_kindNumber 0 = .ok (.iconst 3, 1) := by decide +kernel
theorem dX2_kindNumber_1 : decode cX2_kindNumber 1 = .ok (.ireturn, 1) := by decide +kernel
theorem dX2_wants_0 : decode cX2_wants 0 = .ok (.iload_n 1, 1) := by decide +kernel
theorem dX2_wants_1 : decode cX2_wants 1 = .ok (.aload_n 0, 1) := by decide +kernel
theorem dX2_wants_2 : decode cX2_wants 2 = .ok (.getfield 9, 3) := by decide +kernel
theorem dX2_wants_5 : decode cX2_wants 5 = .ok (.if_icmp .gt 10, 3) := by decide +kernel
theorem dX2_wants_8 : decode cX2_wants 8 = .ok (.aload_n 0, 1) := by decide +kernel
theorem dX2_wants_9 : decode cX2_wants 9 = .ok (.getfield 15, 3) := by decide +kernel
theorem dX2_wants_12 : decode cX2_wants 12 = .ok (.goto 4, 3) := by decide +kernel
theorem dX2_wants_15 : decode cX2_wants 15 = .ok (.iconst 0, 1) := by decide +kernel
theorem dX2_wants_16 : decode cX2_wants 16 = .ok (.ireturn, 1) := by decide +kernel
theorem dX2_lowMark_0 : decode cX2_lowMark 0 = .ok (.aload_n 0, 1) := by decide +kernel
theorem dX2_lowMark_1 : decode cX2_lowMark 1 = .ok (.getfield 9, 3) := by decide +kernel
theorem dX2_lowMark_4 : decode cX2_lowMark 4 = .ok (.ireturn, 1) := by decide +kernel
theorem dX2_lotSize_0 : decode cX2_lotSize 0 = .ok (.aload_n 0, 1) := by decide +kernel
theorem dX2_lotSize_1 : decode cX2_lotSize 1 = .ok (.getfield 15, 3) := by decide +kernel
theorem dX2_lotSize_4 : decode cX2_lotSize 4 = .ok (.ireturn, 1) := by decide +kernel
theorem dX3_init_0 : decode cX3_init 0 = .ok (.aload_n 0, 1) := by decide +kernel
theorem dX3_init_1 : decode cX3_init 1 = .ok (.iload_n 2, 1) := by decide +kernel
theorem dX3_init_2 : decode cX3_init 2 = .ok (.invokespecial 3, 3) := by decide +kernel
theorem dX3_init_5 : decode cX3_init 5 = .ok (.aload_n 0, 1) := by decide +kernel
theorem dX3_init_6 : decode cX3_init 6 = .ok (.iload_n 1, 1) := by decide +kernel
theorem dX3_init_7 : decode cX3_init 7 = .ok (.putfield 9, 3) := by decide +kernel
theorem dX3_init_10 : decode cX3_init 10 = .ok (.return_, 1) := by decide +kernel
theorem dX3_kindNumber_0 : decode cX3_kindNumber 0 = .ok (.iconst 2, 1) := by decide +kernel
theorem dX3_kindNumber_1 : decode cX3_kindNumber 1 = .ok (.ireturn, 1) := by decide +kernel
theorem dX3_wants_0 : decode cX3_wants 0 = .ok (.aload_n 0, 1) := by decide +kernel
theorem dX3_wants_1 : decode cX3_wants 1 = .ok (.getfield 9, 3) := by decide +kernel
theorem dX3_wants_4 : decode cX3_wants 4 = .ok (.aload_n 0, 1) := by decide +kernel
theorem dX3_wants_5 : decode cX3_wants 5 = .ok (.getfield 15, 3) := by decide +kernel
theorem dX3_wants_8 : decode cX3_wants 8 = .ok (.iload_n 1, 1) := by decide +kernel
theorem dX3_wants_9 : decode cX3_wants 9 = .ok (.invokestatic 18, 3) := by decide +kernel
theorem dX3_wants_12 : decode cX3_wants 12 = .ok (.ireturn, 1) := by decide +kernel
theorem dX3_lowMark_0 : decode cX3_lowMark 0 = .ok (.aload_n 0, 1) := by decide +kernel
theorem dX3_lowMark_1 : decode cX3_lowMark 1 = .ok (.getfield 9, 3) := by decide +kernel
theorem dX3_lowMark_4 : decode cX3_lowMark 4 = .ok (.ireturn, 1) := by decide +kernel
theorem dX3_pairWants_0 : decode cX3_pairWants 0 = .ok (.iload_n 2, 1) := by decide +kernel
theorem dX3_pairWants_1 : decode cX3_pairWants 1 = .ok (.iload_n 0, 1) := by decide +kernel
theorem dX3_pairWants_2 : decode cX3_pairWants 2 = .ok (.if_icmp .gt 9, 3) := by decide +kernel
theorem dX3_pairWants_5 : decode cX3_pairWants 5 = .ok (.iload_n 1, 1) := by decide +kernel
theorem dX3_pairWants_6 : decode cX3_pairWants 6 = .ok (.iload_n 2, 1) := by decide +kernel
theorem dX3_pairWants_7 : decode cX3_pairWants 7 = .ok (.isub, 1) := by decide +kernel
theorem dX3_pairWants_8 : decode cX3_pairWants 8 = .ok (.goto 4, 3) := by decide +kernel
theorem dX3_pairWants_11 : decode cX3_pairWants 11 = .ok (.iconst 0, 1) := by decide +kernel
theorem dX3_pairWants_12 : decode cX3_pairWants 12 = .ok (.ireturn, 1) := by decide +kernel
theorem dX4_init_0 : decode cX4_init 0 = .ok (.aload_n 0, 1) := by decide +kernel
theorem dX4_init_1 : decode cX4_init 1 = .ok (.invokespecial 5, 3) := by decide +kernel
theorem dX4_init_4 : decode cX4_init 4 = .ok (.aload_n 0, 1) := by decide +kernel
theorem dX4_init_5 : decode cX4_init 5 = .ok (.sipush 325, 3) := by decide +kernel
theorem dX4_init_8 : decode cX4_init 8 = .ok (.newarray .long, 2) := by decide +kernel
theorem dX4_init_10 : decode cX4_init 10 = .ok (.putfield 13, 3) := by decide +kernel
theorem dX4_init_13 : decode cX4_init 13 = .ok (.aload_n 0, 1) := by decide +kernel
theorem dX4_init_14 : decode cX4_init 14 = .ok (.sipush 325, 3) := by decide +kernel
theorem dX4_init_17 : decode cX4_init 17 = .ok (.newarray .long, 2) := by decide +kernel
theorem dX4_init_19 : decode cX4_init 19 = .ok (.putfield 17, 3) := by decide +kernel
theorem dX4_init_22 : decode cX4_init 22 = .ok (.aload_n 0, 1) := by decide +kernel
theorem dX4_init_23 : decode cX4_init 23 = .ok (.aload_n 1, 1) := by decide +kernel
theorem dX4_init_24 : decode cX4_init 24 = .ok (.putfield 20, 3) := by decide +kernel
theorem dX4_init_27 : decode cX4_init 27 = .ok (.return_, 1) := by decide +kernel
theorem dX4_plan_0 : decode cX4_plan 0 = .ok (.iconst 0, 1) := by decide +kernel
theorem dX4_plan_1 : decode cX4_plan 1 = .ok (.istore 4, 2) := by decide +kernel
theorem dX4_plan_3 : decode cX4_plan 3 = .ok (.iload 4, 2) := by decide +kernel
theorem dX4_plan_5 : decode cX4_plan 5 = .ok (.aload_n 0, 1) := by decide +kernel
theorem dX4_plan_6 : decode cX4_plan 6 = .ok (.getfield 17, 3) := by decide +kernel
theorem dX4_plan_9 : decode cX4_plan 9 = .ok (.arraylength, 1) := by decide +kernel
theorem dX4_plan_10 : decode cX4_plan 10 = .ok (.if_icmp .ge 17, 3) := by decide +kernel
theorem dX4_plan_13 : decode cX4_plan 13 = .ok (.aload_n 0, 1) := by decide +kernel
theorem dX4_plan_14 : decode cX4_plan 14 = .ok (.getfield 17, 3) := by decide +kernel
theorem dX4_plan_17 : decode cX4_plan 17 = .ok (.iload 4, 2) := by decide +kernel
theorem dX4_plan_19 : decode cX4_plan 19 = .ok (.lconst 0, 1) := by decide +kernel
theorem dX4_plan_20 : decode cX4_plan 20 = .ok (.lastore, 1) := by decide +kernel
theorem dX4_plan_21 : decode cX4_plan 21 = .ok (.iinc 4 1, 3) := by decide +kernel
theorem dX4_plan_24 : decode cX4_plan 24 = .ok (.goto (-21), 3) := by decide +kernel
theorem dX4_plan_27 : decode cX4_plan 27 = .ok (.iload_n 3, 1) := by decide +kernel
theorem dX4_plan_28 : decode cX4_plan 28 = .ok (.istore 4, 2) := by decide +kernel
theorem dX4_plan_30 : decode cX4_plan 30 = .ok (.iload 4, 2) := by decide +kernel
theorem dX4_plan_32 : decode cX4_plan 32 = .ok (.iconst 1, 1) := by decide +kernel
theorem dX4_plan_33 : decode cX4_plan 33 = .ok (.if_icmp .le 30, 3) := by decide +kernel
theorem dX4_plan_36 : decode cX4_plan 36 = .ok (.aload_n 0, 1) := by decide +kernel
theorem dX4_plan_37 : decode cX4_plan 37 = .ok (.aload_n 1, 1) := by decide +kernel
theorem dX4_plan_38 : decode cX4_plan 38 = .ok (.iload_n 3, 1) := by decide +kernel
theorem dX4_plan_39 : decode cX4_plan 39 = .ok (.iload 4, 2) := by decide +kernel
theorem dX4_plan_41 : decode cX4_plan 41 = .ok (.isub, 1) := by decide +kernel
theorem dX4_plan_42 : decode cX4_plan 42 = .ok (.invokevirtual 24, 3) := by decide +kernel
theorem dX4_plan_45 : decode cX4_plan 45 = .ok (.aload_n 0, 1) := by decide +kernel
theorem dX4_plan_46 : decode cX4_plan 46 = .ok (.aload_n 1, 1) := by decide +kernel
theorem dX4_plan_47 : decode cX4_plan 47 = .ok (.aload_n 0, 1) := by decide +kernel
theorem dX4_plan_48 : decode cX4_plan 48 = .ok (.iload 4, 2) := by decide +kernel
theorem dX4_plan_50 : decode cX4_plan 50 = .ok (.iload_n 3, 1) := by decide +kernel
theorem dX4_plan_51 : decode cX4_plan 51 = .ok (.invokevirtual 28, 3) := by decide +kernel
theorem dX4_plan_54 : decode cX4_plan 54 = .ok (.invokevirtual 32, 3) := by decide +kernel
theorem dX4_plan_57 : decode cX4_plan 57 = .ok (.iinc 4 (-1), 3) := by decide +kernel
theorem dX4_plan_60 : decode cX4_plan 60 = .ok (.goto (-30), 3) := by decide +kernel
theorem dX4_plan_63 : decode cX4_plan 63 = .ok (.aload_n 0, 1) := by decide +kernel
theorem dX4_plan_64 : decode cX4_plan 64 = .ok (.aload_n 1, 1) := by decide +kernel
theorem dX4_plan_65 : decode cX4_plan 65 = .ok (.iload_n 3, 1) := by decide +kernel
theorem dX4_plan_66 : decode cX4_plan 66 = .ok (.iconst 1, 1) := by decide +kernel
theorem dX4_plan_67 : decode cX4_plan 67 = .ok (.isub, 1) := by decide +kernel
theorem dX4_plan_68 : decode cX4_plan 68 = .ok (.invokevirtual 24, 3) := by decide +kernel
theorem dX4_plan_71 : decode cX4_plan 71 = .ok (.aload_n 0, 1) := by decide +kernel
theorem dX4_plan_72 : decode cX4_plan 72 = .ok (.aload_n 1, 1) := by decide +kernel
theorem dX4_plan_73 : decode cX4_plan 73 = .ok (.iload_n 2, 1) := by decide +kernel
theorem dX4_plan_74 : decode cX4_plan 74 = .ok (.iconst 0, 1) := by decide +kernel
theorem dX4_plan_75 : decode cX4_plan 75 = .ok (.aload_n 0, 1) := by decide +kernel
theorem dX4_plan_76 : decode cX4_plan 76 = .ok (.iconst 1, 1) := by decide +kernel
theorem dX4_plan_77 : decode cX4_plan 77 = .ok (.iload_n 3, 1) := by decide +kernel
theorem dX4_plan_78 : decode cX4_plan 78 = .ok (.invokevirtual 28, 3) := by decide +kernel
theorem dX4_plan_81 : decode cX4_plan 81 = .ok (.invokevirtual 35, 3) := by decide +kernel
theorem dX4_plan_84 : decode cX4_plan 84 = .ok (.return_, 1) := by decide +kernel
theorem dX4_turnTo_0 : decode cX4_turnTo 0 = .ok (.aload_n 0, 1) := by decide +kernel
theorem dX4_turnTo_1 : decode cX4_turnTo 1 = .ok (.aload_n 1, 1) := by decide +kernel
theorem dX4_turnTo_2 : decode cX4_turnTo 2 = .ok (.iload_n 2, 1) := by decide +kernel
theorem dX4_turnTo_3 : decode cX4_turnTo 3 = .ok (.invokestatic 39, 3) := by decide +kernel
theorem dX4_turnTo_6 : decode cX4_turnTo 6 = .ok (.putfield 43, 3) := by decide +kernel
theorem dX4_turnTo_9 : decode cX4_turnTo 9 = .ok (.aload_n 0, 1) := by decide +kernel
theorem dX4_turnTo_10 : decode cX4_turnTo 10 = .ok (.aload_n 1, 1) := by decide +kernel
theorem dX4_turnTo_11 : decode cX4_turnTo 11 = .ok (.iload_n 2, 1) := by decide +kernel
theorem dX4_turnTo_12 : decode cX4_turnTo 12 = .ok (.iconst 1, 1) := by decide +kernel
theorem dX4_turnTo_13 : decode cX4_turnTo 13 = .ok (.iadd, 1) := by decide +kernel
theorem dX4_turnTo_14 : decode cX4_turnTo 14 = .ok (.invokestatic 39, 3) := by decide +kernel
theorem dX4_turnTo_17 : decode cX4_turnTo 17 = .ok (.putfield 47, 3) := by decide +kernel
theorem dX4_turnTo_20 : decode cX4_turnTo 20 = .ok (.return_, 1) := by decide +kernel
theorem dX4_usefulOrder_0 : decode cX4_usefulOrder 0 = .ok (.iload_n 1, 1) := by decide +kernel
theorem dX4_usefulOrder_1 : decode cX4_usefulOrder 1 = .ok (.aload_n 0, 1) := by decide +kernel
theorem dX4_usefulOrder_2 : decode cX4_usefulOrder 2 = .ok (.getfield 20, 3) := by decide +kernel
theorem dX4_usefulOrder_5 : decode cX4_usefulOrder 5 = .ok (.getfield 50, 3) := by decide +kernel
theorem dX4_usefulOrder_8 : decode cX4_usefulOrder 8 = .ok (.iadd, 1) := by decide +kernel
theorem dX4_usefulOrder_9 : decode cX4_usefulOrder 9 = .ok (.iload_n 2, 1) := by decide +kernel
theorem dX4_usefulOrder_10 : decode cX4_usefulOrder 10 = .ok (.if_icmp .gt 8, 3) := by decide +kernel
theorem dX4_usefulOrder_13 : decode cX4_usefulOrder 13 = .ok (.bipush 12, 2) := by decide +kernel
theorem dX4_usefulOrder_15 : decode cX4_usefulOrder 15 = .ok (.goto 4, 3) := by decide +kernel
theorem dX4_usefulOrder_18 : decode cX4_usefulOrder 18 = .ok (.iconst 0, 1) := by decide +kernel
theorem dX4_usefulOrder_19 : decode cX4_usefulOrder 19 = .ok (.ireturn, 1) := by decide +kernel
theorem dX4_planDay_0 : decode cX4_planDay 0 = .ok (.aload_n 0, 1) := by decide +kernel
theorem dX4_planDay_1 : decode cX4_planDay 1 = .ok (.getfield 20, 3) := by decide +kernel
theorem dX4_planDay_4 : decode cX4_planDay 4 = .ok (.getfield 50, 3) := by decide +kernel
theorem dX4_planDay_7 : decode cX4_planDay 7 = .ok (.iconst 2, 1) := by decide +kernel
theorem dX4_planDay_8 : decode cX4_planDay 8 = .ok (.if_icmp .ne 8, 3) := by decide +kernel
theorem dX4_planDay_11 : decode cX4_planDay 11 = .ok (.bipush 12, 2) := by decide +kernel
theorem dX4_planDay_13 : decode cX4_planDay 13 = .ok (.goto 4, 3) := by decide +kernel
theorem dX4_planDay_16 : decode cX4_planDay 16 = .ok (.iconst 0, 1) := by decide +kernel
theorem dX4_planDay_17 : decode cX4_planDay 17 = .ok (.istore_n 3, 1) := by decide +kernel
theorem dX4_planDay_18 : decode cX4_planDay 18 = .ok (.iconst 0, 1) := by decide +kernel
theorem dX4_planDay_19 : decode cX4_planDay 19 = .ok (.istore 4, 2) := by decide +kernel
theorem dX4_planDay_21 : decode cX4_planDay 21 = .ok (.iload 4, 2) := by decide +kernel
theorem dX4_planDay_23 : decode cX4_planDay 23 = .ok (.iload_n 3, 1) := by decide +kernel
theorem dX4_planDay_24 : decode cX4_planDay 24 = .ok (.if_icmp .gt 81, 3) := by decide +kernel
theorem dX4_planDay_27 : decode cX4_planDay 27 = .ok (.aload_n 0, 1) := by decide +kernel
theorem dX4_planDay_28 : decode cX4_planDay 28 = .ok (.getfield 20, 3) := by decide +kernel
theorem dX4_planDay_31 : decode cX4_planDay 31 = .ok (.invokevirtual 54, 3) := by decide +kernel
theorem dX4_planDay_34 : decode cX4_planDay 34 = .ok (.istore 5, 2) := by decide +kernel
theorem dX4_planDay_36 : decode cX4_planDay 36 = .ok (.iload 5, 2) := by decide +kernel
theorem dX4_planDay_38 : decode cX4_planDay 38 = .ok (.aload_n 0, 1) := by decide +kernel
theorem dX4_planDay_39 : decode cX4_planDay 39 = .ok (.getfield 20, 3) := by decide +kernel
theorem dX4_planDay_42 : decode cX4_planDay 42 = .ok (.getfield 58, 3) := by decide +kernel
theorem dX4_planDay_45 : decode cX4_planDay 45 = .ok (.if_icmp .gt 54, 3) := by decide +kernel
theorem dX4_planDay_48 : decode cX4_planDay 48 = .ok (.aload_n 0, 1) := by decide +kernel
theorem dX4_planDay_49 : decode cX4_planDay 49 = .ok (.aload_n 1, 1) := by decide +kernel
theorem dX4_planDay_50 : decode cX4_planDay 50 = .ok (.iload 5, 2) := by decide +kernel
theorem dX4_planDay_52 : decode cX4_planDay 52 = .ok (.iload 4, 2) := by decide +kernel
theorem dX4_planDay_54 : decode cX4_planDay 54 = .ok (.iload_n 2, 1) := by decide +kernel
theorem dX4_planDay_55 : decode cX4_planDay 55 = .ok (.invokevirtual 35, 3) := by decide +kernel
theorem dX4_planDay_58 : decode cX4_planDay 58 = .ok (.iload 5, 2) := by decide +kernel
theorem dX4_planDay_60 : decode cX4_planDay 60 = .ok (.iload 4, 2) := by decide +kernel
theorem dX4_planDay_62 : decode cX4_planDay 62 = .ok (.invokestatic 61, 3) := by decide +kernel
theorem dX4_planDay_65 : decode cX4_planDay 65 = .ok (.istore 6, 2) := by decide +kernel
theorem dX4_planDay_67 : decode cX4_planDay 67 = .ok (.iload 6, 2) := by decide +kernel
theorem dX4_planDay_69 : decode cX4_planDay 69 = .ok (.ifCond .lt 24, 3) := by decide +kernel
theorem dX4_planDay_72 : decode cX4_planDay 72 = .ok (.iload 6, 2) := by decide +kernel
theorem dX4_planDay_74 : decode cX4_planDay 74 = .ok (.aload_n 0, 1) := by decide +kernel
theorem dX4_planDay_75 : decode cX4_planDay 75 = .ok (.getfield 13, 3) := by decide +kernel
theorem dX4_planDay_78 : decode cX4_planDay 78 = .ok (.arraylength, 1) := by decide +kernel
theorem dX4_planDay_79 : decode cX4_planDay 79 = .ok (.if_icmp .ge 14, 3) := by decide +kernel
theorem dX4_planDay_82 : decode cX4_planDay 82 = .ok (.aload_n 0, 1) := by decide +kernel
theorem dX4_planDay_83 : decode cX4_planDay 83 = .ok (.getfield 13, 3) := by decide +kernel
theorem dX4_planDay_86 : decode cX4_planDay 86 = .ok (.iload 6, 2) := by decide +kernel
theorem dX4_planDay_88 : decode cX4_planDay 88 = .ok (.aload_n 0, 1) := by decide +kernel
theorem dX4_planDay_89 : decode cX4_planDay 89 = .ok (.getfield 64, 3) := by decide +kernel
theorem dX4_planDay_92 : decode cX4_planDay 92 = .ok (.lastore, 1) := by decide +kernel
theorem dX4_planDay_93 : decode cX4_planDay 93 = .ok (.iinc 5 1, 3) := by decide +kernel
theorem dX4_planDay_96 : decode cX4_planDay 96 = .ok (.goto (-60), 3) := by decide +kernel
theorem dX4_planDay_99 : decode cX4_planDay 99 = .ok (.iinc 4 1, 3) := by decide +kernel
theorem dX4_planDay_102 : decode cX4_planDay 102 = .ok (.goto (-81), 3) := by decide +kernel
theorem dX4_planDay_105 : decode cX4_planDay 105 = .ok (.aload_n 0, 1) := by decide +kernel
theorem dX4_planDay_106 : decode cX4_planDay 106 = .ok (.getfield 13, 3) := by decide +kernel
theorem dX4_planDay_109 : decode cX4_planDay 109 = .ok (.astore 4, 2) := by decide +kernel
theorem dX4_planDay_111 : decode cX4_planDay 111 = .ok (.aload_n 0, 1) := by decide +kernel
theorem dX4_planDay_112 : decode cX4_planDay 112 = .ok (.aload_n 0, 1) := by decide +kernel
theorem dX4_planDay_113 : decode cX4_planDay 113 = .ok (.getfield 17, 3) := by decide +kernel
theorem dX4_planDay_116 : decode cX4_planDay 116 = .ok (.putfield 13, 3) := by decide +kernel
theorem dX4_planDay_119 : decode cX4_planDay 119 = .ok (.aload_n 0, 1) := by decide +kernel
theorem dX4_planDay_120 : decode cX4_planDay 120 = .ok (.aload 4, 2) := by decide +kernel
theorem dX4_planDay_122 : decode cX4_planDay 122 = .ok (.putfield 17, 3) := by decide +kernel
theorem dX4_planDay_125 : decode cX4_planDay 125 = .ok (.return_, 1) := by decide +kernel
theorem dX4_choose_0 : decode cX4_choose 0 = .ok (.aload_n 0, 1) := by decide +kernel
theorem dX4_choose_1 : decode cX4_choose 1 = .ok (.aload_n 0, 1) := by decide +kernel
theorem dX4_choose_2 : decode cX4_choose 2 = .ok (.aload_n 1, 1) := by decide +kernel
theorem dX4_choose_3 : decode cX4_choose 3 = .ok (.iload_n 2, 1) := by decide +kernel
theorem dX4_choose_4 : decode cX4_choose 4 = .ok (.iload_n 3, 1) := by decide +kernel
theorem dX4_choose_5 : decode cX4_choose 5 = .ok (.iconst 0, 1) := by decide +kernel
theorem dX4_choose_6 : decode cX4_choose 6 = .ok (.invokevirtual 67, 3) := by decide +kernel
theorem dX4_choose_9 : decode cX4_choose 9 = .ok (.putfield 64, 3) := by decide +kernel
theorem dX4_choose_12 : decode cX4_choose 12 = .ok (.aload_n 0, 1) := by decide +kernel
theorem dX4_choose_13 : decode cX4_choose 13 = .ok (.iconst 0, 1) := by decide +kernel
theorem dX4_choose_14 : decode cX4_choose 14 = .ok (.putfield 71, 3) := by decide +kernel
theorem dX4_choose_17 : decode cX4_choose 17 = .ok (.iconst 1, 1) := by decide +kernel
theorem dX4_choose_18 : decode cX4_choose 18 = .ok (.istore 5, 2) := by decide +kernel
theorem dX4_choose_20 : decode cX4_choose 20 = .ok (.iload 5, 2) := by decide +kernel
theorem dX4_choose_22 : decode cX4_choose 22 = .ok (.iload 4, 2) := by decide +kernel
theorem dX4_choose_24 : decode cX4_choose 24 = .ok (.if_icmp .gt 42, 3) := by decide +kernel
theorem dX4_choose_27 : decode cX4_choose 27 = .ok (.aload_n 0, 1) := by decide +kernel
theorem dX4_choose_28 : decode cX4_choose 28 = .ok (.aload_n 1, 1) := by decide +kernel
theorem dX4_choose_29 : decode cX4_choose 29 = .ok (.iload_n 2, 1) := by decide +kernel
theorem dX4_choose_30 : decode cX4_choose 30 = .ok (.iload_n 3, 1) := by decide +kernel
theorem dX4_choose_31 : decode cX4_choose 31 = .ok (.iload 5, 2) := by decide +kernel
theorem dX4_choose_33 : decode cX4_choose 33 = .ok (.invokevirtual 67, 3) := by decide +kernel
theorem dX4_choose_36 : decode cX4_choose 36 = .ok (.lstore 6, 2) := by decide +kernel
theorem dX4_choose_38 : decode cX4_choose 38 = .ok (.lload 6, 2) := by decide +kernel
theorem dX4_choose_40 : decode cX4_choose 40 = .ok (.aload_n 0, 1) := by decide +kernel
theorem dX4_choose_41 : decode cX4_choose 41 = .ok (.getfield 64, 3) := by decide +kernel
theorem dX4_choose_44 : decode cX4_choose 44 = .ok (.lcmp, 1) := by decide +kernel
theorem dX4_choose_45 : decode cX4_choose 45 = .ok (.ifCond .ge 15, 3) := by decide +kernel
theorem dX4_choose_48 : decode cX4_choose 48 = .ok (.aload_n 0, 1) := by decide +kernel
theorem dX4_choose_49 : decode cX4_choose 49 = .ok (.lload 6, 2) := by decide +kernel
theorem dX4_choose_51 : decode cX4_choose 51 = .ok (.putfield 64, 3) := by decide +kernel
theorem dX4_choose_54 : decode cX4_choose 54 = .ok (.aload_n 0, 1) := by decide +kernel
theorem dX4_choose_55 : decode cX4_choose 55 = .ok (.iload 5, 2) := by decide +kernel
theorem dX4_choose_57 : decode cX4_choose 57 = .ok (.putfield 71, 3) := by decide +kernel
theorem dX4_choose_60 : decode cX4_choose 60 = .ok (.iinc 5 1, 3) := by decide +kernel
theorem dX4_choose_63 : decode cX4_choose 63 = .ok (.goto (-43), 3) := by decide +kernel
theorem dX4_choose_66 : decode cX4_choose 66 = .ok (.return_, 1) := by decide +kernel
theorem dX4_priceOf_0 : decode cX4_priceOf 0 = .ok (.aload_n 0, 1) := by decide +kernel
theorem dX4_priceOf_1 : decode cX4_priceOf 1 = .ok (.getfield 20, 3) := by decide +kernel
theorem dX4_priceOf_4 : decode cX4_priceOf 4 = .ok (.getfield 50, 3) := by decide +kernel
theorem dX4_priceOf_7 : decode cX4_priceOf 7 = .ok (.ifCond .ne 16, 3) := by decide +kernel
theorem dX4_priceOf_10 : decode cX4_priceOf 10 = .ok (.aload_n 0, 1) := by decide +kernel
theorem dX4_priceOf_11 : decode cX4_priceOf 11 = .ok (.getfield 20, 3) := by decide +kernel
theorem dX4_priceOf_14 : decode cX4_priceOf 14 = .ok (.iload_n 2, 1) := by decide +kernel
theorem dX4_priceOf_15 : decode cX4_priceOf 15 = .ok (.iload 4, 2) := by decide +kernel
theorem dX4_priceOf_17 : decode cX4_priceOf 17 = .ok (.invokevirtual 74, 3) := by decide +kernel
theorem dX4_priceOf_20 : decode cX4_priceOf 20 = .ok (.goto 4, 3) := by decide +kernel
theorem dX4_priceOf_23 : decode cX4_priceOf 23 = .ok (.iload_n 2, 1) := by decide +kernel
theorem dX4_priceOf_24 : decode cX4_priceOf 24 = .ok (.istore 5, 2) := by decide +kernel
theorem dX4_priceOf_26 : decode cX4_priceOf 26 = .ok (.aload_n 0, 1) := by decide +kernel
theorem dX4_priceOf_27 : decode cX4_priceOf 27 = .ok (.getfield 20, 3) := by decide +kernel
theorem dX4_priceOf_30 : decode cX4_priceOf 30 = .ok (.getfield 50, 3) := by decide +kernel
theorem dX4_priceOf_33 : decode cX4_priceOf 33 = .ok (.iconst 2, 1) := by decide +kernel
theorem dX4_priceOf_34 : decode cX4_priceOf 34 = .ok (.if_icmp .ne 7, 3) := by decide +kernel
theorem dX4_priceOf_37 : decode cX4_priceOf 37 = .ok (.iload_n 3, 1) := by decide +kernel
theorem dX4_priceOf_38 : decode cX4_priceOf 38 = .ok (.goto 20, 3) := by decide +kernel
theorem dX4_priceOf_41 : decode cX4_priceOf 41 = .ok (.aload_n 0, 1) := by decide +kernel
theorem dX4_priceOf_42 : decode cX4_priceOf 42 = .ok (.getfield 20, 3) := by decide +kernel
theorem dX4_priceOf_45 : decode cX4_priceOf 45 = .ok (.getfield 50, 3) := by decide +kernel
theorem dX4_priceOf_48 : decode cX4_priceOf 48 = .ok (.iconst 1, 1) := by decide +kernel
theorem dX4_priceOf_49 : decode cX4_priceOf 49 = .ok (.if_icmp .ne 8, 3) := by decide +kernel
theorem dX4_priceOf_52 : decode cX4_priceOf 52 = .ok (.iload 4, 2) := by decide +kernel
theorem dX4_priceOf_54 : decode cX4_priceOf 54 = .ok (.goto 4, 3) := by decide +kernel
theorem dX4_priceOf_57 : decode cX4_priceOf 57 = .ok (.iconst 0, 1) := by decide +kernel
theorem dX4_priceOf_58 : decode cX4_priceOf 58 = .ok (.istore 6, 2) := by decide +kernel
theorem dX4_priceOf_60 : decode cX4_priceOf 60 = .ok (.aload_n 0, 1) := by decide +kernel
theorem dX4_priceOf_61 : decode cX4_priceOf 61 = .ok (.getfield 20, 3) := by decide +kernel
theorem dX4_priceOf_64 : decode cX4_priceOf 64 = .ok (.getfield 50, 3) := by decide +kernel
theorem dX4_priceOf_67 : decode cX4_priceOf 67 = .ok (.iconst 2, 1) := by decide +kernel
theorem dX4_priceOf_68 : decode cX4_priceOf 68 = .ok (.if_icmp .ne 8, 3) := by decide +kernel
theorem dX4_priceOf_71 : decode cX4_priceOf 71 = .ok (.iload 4, 2) := by decide +kernel
theorem dX4_priceOf_73 : decode cX4_priceOf 73 = .ok (.goto 4, 3) := by decide +kernel
theorem dX4_priceOf_76 : decode cX4_priceOf 76 = .ok (.iconst 0, 1) := by decide +kernel
theorem dX4_priceOf_77 : decode cX4_priceOf 77 = .ok (.istore 7, 2) := by decide +kernel
theorem dX4_priceOf_79 : decode cX4_priceOf 79 = .ok (.aload_n 0, 1) := by decide +kernel
theorem dX4_priceOf_80 : decode cX4_priceOf 80 = .ok (.getfield 20, 3) := by decide +kernel
theorem dX4_priceOf_83 : decode cX4_priceOf 83 = .ok (.iload 4, 2) := by decide +kernel
theorem dX4_priceOf_85 : decode cX4_priceOf 85 = .ok (.invokevirtual 77, 3) := by decide +kernel
theorem dX4_priceOf_88 : decode cX4_priceOf 88 = .ok (.i2l, 1) := by decide +kernel
theorem dX4_priceOf_89 : decode cX4_priceOf 89 = .ok (.aload_n 0, 1) := by decide +kernel
theorem dX4_priceOf_90 : decode cX4_priceOf 90 = .ok (.getfield 47, 3) := by decide +kernel
theorem dX4_priceOf_93 : decode cX4_priceOf 93 = .ok (.lmul, 1) := by decide +kernel
theorem dX4_priceOf_94 : decode cX4_priceOf 94 = .ok (.aload_n 0, 1) := by decide +kernel
theorem dX4_priceOf_95 : decode cX4_priceOf 95 = .ok (.getfield 20, 3) := by decide +kernel
theorem dX4_priceOf_98 : decode cX4_priceOf 98 = .ok (.iload 5, 2) := by decide +kernel
theorem dX4_priceOf_100 : decode cX4_priceOf 100 = .ok (.invokevirtual 81, 3) := by decide +kernel
theorem dX4_priceOf_103 : decode cX4_priceOf 103 = .ok (.i2l, 1) := by decide +kernel
theorem dX4_priceOf_104 : decode cX4_priceOf 104 = .ok (.aload_n 0, 1) := by decide +kernel
theorem dX4_priceOf_105 : decode cX4_priceOf 105 = .ok (.getfield 43, 3) := by decide +kernel
theorem dX4_priceOf_108 : decode cX4_priceOf 108 = .ok (.lmul, 1) := by decide +kernel
theorem dX4_priceOf_109 : decode cX4_priceOf 109 = .ok (.ladd, 1) := by decide +kernel
theorem dX4_priceOf_110 : decode cX4_priceOf 110 = .ok (.lstore 8, 2) := by decide +kernel
theorem dX4_priceOf_112 : decode cX4_priceOf 112 = .ok (.iconst 0, 1) := by decide +kernel
theorem dX4_priceOf_113 : decode cX4_priceOf 113 = .ok (.istore 10, 2) := by decide +kernel
theorem dX4_priceOf_115 : decode cX4_priceOf 115 = .ok (.iload 10, 2) := by decide +kernel
theorem dX4_priceOf_117 : decode cX4_priceOf 117 = .ok (.bipush 7, 2) := by decide +kernel
theorem dX4_priceOf_119 : decode cX4_priceOf 119 = .ok (.if_icmp .ge 64, 3) := by decide +kernel
theorem dX4_priceOf_122 : decode cX4_priceOf 122 = .ok (.aload_n 1, 1) := by decide +kernel
theorem dX4_priceOf_123 : decode cX4_priceOf 123 = .ok (.iload 10, 2) := by decide +kernel
theorem dX4_priceOf_125 : decode cX4_priceOf 125 = .ok (.invokevirtual 84, 3) := by decide +kernel
theorem dX4_priceOf_128 : decode cX4_priceOf 128 = .ok (.istore 11, 2) := by decide +kernel
theorem dX4_priceOf_130 : decode cX4_priceOf 130 = .ok (.iload 11, 2) := by decide +kernel
theorem dX4_priceOf_132 : decode cX4_priceOf 132 = .ok (.ifCond .le 45, 3) := by decide +kernel
theorem dX4_priceOf_135 : decode cX4_priceOf 135 = .ok (.aload_n 0, 1) := by decide +kernel
theorem dX4_priceOf_136 : decode cX4_priceOf 136 = .ok (.getfield 20, 3) := by decide +kernel
theorem dX4_priceOf_139 : decode cX4_priceOf 139 = .ok (.aload_n 0, 1) := by decide +kernel
theorem dX4_priceOf_140 : decode cX4_priceOf 140 = .ok (.getfield 20, 3) := by decide +kernel
theorem dX4_priceOf_143 : decode cX4_priceOf 143 = .ok (.iload 5, 2) := by decide +kernel
theorem dX4_priceOf_145 : decode cX4_priceOf 145 = .ok (.iload 10, 2) := by decide +kernel
theorem dX4_priceOf_147 : decode cX4_priceOf 147 = .ok (.invokevirtual 89, 3) := by decide +kernel
theorem dX4_priceOf_150 : decode cX4_priceOf 150 = .ok (.iload 6, 2) := by decide +kernel
theorem dX4_priceOf_152 : decode cX4_priceOf 152 = .ok (.invokevirtual 74, 3) := by decide +kernel
theorem dX4_priceOf_155 : decode cX4_priceOf 155 = .ok (.istore 12, 2) := by decide +kernel
theorem dX4_priceOf_157 : decode cX4_priceOf 157 = .ok (.lload 8, 2) := by decide +kernel
theorem dX4_priceOf_159 : decode cX4_priceOf 159 = .ok (.iload 11, 2) := by decide +kernel
theorem dX4_priceOf_161 : decode cX4_priceOf 161 = .ok (.i2l, 1) := by decide +kernel
theorem dX4_priceOf_162 : decode cX4_priceOf 162 = .ok (.aload_n 0, 1) := by decide +kernel
theorem dX4_priceOf_163 : decode cX4_priceOf 163 = .ok (.iload 12, 2) := by decide +kernel
theorem dX4_priceOf_165 : decode cX4_priceOf 165 = .ok (.iload 7, 2) := by decide +kernel
theorem dX4_priceOf_167 : decode cX4_priceOf 167 = .ok (.invokestatic 61, 3) := by decide +kernel
theorem dX4_priceOf_170 : decode cX4_priceOf 170 = .ok (.invokevirtual 92, 3) := by decide +kernel
theorem dX4_priceOf_173 : decode cX4_priceOf 173 = .ok (.lmul, 1) := by decide +kernel
theorem dX4_priceOf_174 : decode cX4_priceOf 174 = .ok (.ladd, 1) := by decide +kernel
theorem dX4_priceOf_175 : decode cX4_priceOf 175 = .ok (.lstore 8, 2) := by decide +kernel
theorem dX4_priceOf_177 : decode cX4_priceOf 177 = .ok (.iinc 10 1, 3) := by decide +kernel
theorem dX4_priceOf_180 : decode cX4_priceOf 180 = .ok (.goto (-65), 3) := by decide +kernel
theorem dX4_priceOf_183 : decode cX4_priceOf 183 = .ok (.lload 8, 2) := by decide +kernel
theorem dX4_priceOf_185 : decode cX4_priceOf 185 = .ok (.lreturn, 1) := by decide +kernel
theorem dX4_laterAt_0 : decode cX4_laterAt 0 = .ok (.iload_n 1, 1) := by decide +kernel
theorem dX4_laterAt_1 : decode cX4_laterAt 1 = .ok (.ifCond .lt 21, 3) := by decide +kernel
theorem dX4_laterAt_4 : decode cX4_laterAt 4 = .ok (.iload_n 1, 1) := by decide +kernel
theorem dX4_laterAt_5 : decode cX4_laterAt 5 = .ok (.aload_n 0, 1) := by decide +kernel
theorem dX4_laterAt_6 : decode cX4_laterAt 6 = .ok (.getfield 17, 3) := by decide +kernel
theorem dX4_laterAt_9 : decode cX4_laterAt 9 = .ok (.arraylength, 1) := by decide +kernel
theorem dX4_laterAt_10 : decode cX4_laterAt 10 = .ok (.if_icmp .ge 12, 3) := by decide +kernel
theorem dX4_laterAt_13 : decode cX4_laterAt 13 = .ok (.aload_n 0, 1) := by decide +kernel
theorem dX4_laterAt_14 : decode cX4_laterAt 14 = .ok (.getfield 17, 3) := by decide +kernel
theorem dX4_laterAt_17 : decode cX4_laterAt 17 = .ok (.iload_n 1, 1) := by decide +kernel
theorem dX4_laterAt_18 : decode cX4_laterAt 18 = .ok (.laload, 1) := by decide +kernel
theorem dX4_laterAt_19 : decode cX4_laterAt 19 = .ok (.goto 4, 3) := by decide +kernel
theorem dX4_laterAt_22 : decode cX4_laterAt 22 = .ok (.lconst 0, 1) := by decide +kernel
theorem dX4_laterAt_23 : decode cX4_laterAt 23 = .ok (.lreturn, 1) := by decide +kernel
theorem dX4_placeOf_0 : decode cX4_placeOf 0 = .ok (.iload_n 1, 1) := by decide +kernel
theorem dX4_placeOf_1 : decode cX4_placeOf 1 = .ok (.bipush 25, 2) := by decide +kernel
theorem dX4_placeOf_3 : decode cX4_placeOf 3 = .ok (.imul, 1) := by decide +kernel
theorem dX4_placeOf_4 : decode cX4_placeOf 4 = .ok (.iload_n 0, 1) := by decide +kernel
theorem dX4_placeOf_5 : decode cX4_placeOf 5 = .ok (.iadd, 1) := by decide +kernel
theorem dX4_placeOf_6 : decode cX4_placeOf 6 = .ok (.bipush (-12), 2) := by decide +kernel
theorem dX4_placeOf_8 : decode cX4_placeOf 8 = .ok (.isub, 1) := by decide +kernel
theorem dX4_placeOf_9 : decode cX4_placeOf 9 = .ok (.ireturn, 1) := by decide +kernel
theorem dX5_init_0 : decode cX5_init 0 = .ok (.aload_n 0, 1) := by decide +kernel
theorem dX5_init_1 : decode cX5_init 1 = .ok (.invokespecial 3, 3) := by decide +kernel
theorem dX5_init_4 : decode cX5_init 4 = .ok (.return_, 1) := by decide +kernel
theorem dX5_topMark_0 : decode cX5_topMark 0 = .ok (.bipush (-9), 2) := by decide +kernel
theorem dX5_topMark_2 : decode cX5_topMark 2 = .ok (.ireturn, 1) := by decide +kernel
theorem dX5_lowMark_0 : decode cX5_lowMark 0 = .ok (.bipush (-9), 2) := by decide +kernel
theorem dX5_lowMark_2 : decode cX5_lowMark 2 = .ok (.ireturn, 1) := by decide +kernel
theorem dX5_lotSize_0 : decode cX5_lotSize 0 = .ok (.bipush (-9), 2) := by decide +kernel
theorem dX5_lotSize_2 : decode cX5_lotSize 2 = .ok (.ireturn, 1) := by decide +kernel
theorem dX5_tableSize_0 : decode cX5_tableSize 0 = .ok (.bipush (-9), 2) := by decide +kernel
theorem dX5_tableSize_2 : decode cX5_tableSize 2 = .ok (.ireturn, 1) := by decide +kernel
theorem dX6_init_0 : decode cX6_init 0 = .ok (.aload_n 0, 1) := by decide +kernel
theorem dX6_init_1 : decode cX6_init 1 = .ok (.invokespecial 3, 3) := by decide +kernel
theorem dX6_init_4 : decode cX6_init 4 = .ok (.aload_n 0, 1) := by decide +kernel
theorem dX6_init_5 : decode cX6_init 5 = .ok (.bipush 12, 2) := by decide +kernel
theorem dX6_init_7 : decode cX6_init 7 = .ok (.putfield 9, 3) := by decide +kernel
theorem dX6_init_10 : decode cX6_init 10 = .ok (.aload_n 0, 1) := by decide +kernel
theorem dX6_init_11 : decode cX6_init 11 = .ok (.bipush 10, 2) := by decide +kernel
theorem dX6_init_13 : decode cX6_init 13 = .ok (.putfield 15, 3) := by decide +kernel
theorem dX6_init_16 : decode cX6_init 16 = .ok (.aload_n 0, 1) := by decide +kernel
theorem dX6_init_17 : decode cX6_init 17 = .ok (.iconst 1, 1) := by decide +kernel
theorem dX6_init_18 : decode cX6_init 18 = .ok (.putfield 18, 3) := by decide +kernel
theorem dX6_init_21 : decode cX6_init 21 = .ok (.aload_n 0, 1) := by decide +kernel
theorem dX6_init_22 : decode cX6_init 22 = .ok (.iconst 1, 1) := by decide +kernel
theorem dX6_init_23 : decode cX6_init 23 = .ok (.putfield 21, 3) := by decide +kernel
theorem dX6_init_26 : decode cX6_init 26 = .ok (.aload_n 0, 1) := by decide +kernel
theorem dX6_init_27 : decode cX6_init 27 = .ok (.iconst 5, 1) := by decide +kernel
theorem dX6_init_28 : decode cX6_init 28 = .ok (.putfield 24, 3) := by decide +kernel
theorem dX6_init_31 : decode cX6_init 31 = .ok (.aload_n 0, 1) := by decide +kernel
theorem dX6_init_32 : decode cX6_init 32 = .ok (.bipush 25, 2) := by decide +kernel
theorem dX6_init_34 : decode cX6_init 34 = .ok (.newarray .int, 2) := by decide +kernel
theorem dX6_init_36 : decode cX6_init 36 = .ok (.putfield 27, 3) := by decide +kernel
theorem dX6_init_39 : decode cX6_init 39 = .ok (.aload_n 0, 1) := by decide +kernel
theorem dX6_init_40 : decode cX6_init 40 = .ok (.bipush 25, 2) := by decide +kernel
theorem dX6_init_42 : decode cX6_init 42 = .ok (.newarray .int, 2) := by decide +kernel
theorem dX6_init_44 : decode cX6_init 44 = .ok (.putfield 31, 3) := by decide +kernel
theorem dX6_init_47 : decode cX6_init 47 = .ok (.aload_n 0, 1) := by decide +kernel
theorem dX6_init_48 : decode cX6_init 48 = .ok (.bipush 25, 2) := by decide +kernel
theorem dX6_init_50 : decode cX6_init 50 = .ok (.newarray .int, 2) := by decide +kernel
theorem dX6_init_52 : decode cX6_init 52 = .ok (.putfield 34, 3) := by decide +kernel
theorem dX6_init_55 : decode cX6_init 55 = .ok (.return_, 1) := by decide +kernel
theorem dX6_floor_0 : decode cX6_floor 0 = .ok (.aload_n 0, 1) := by decide +kernel
theorem dX6_floor_1 : decode cX6_floor 1 = .ok (.getfield 37, 3) := by decide +kernel
theorem dX6_floor_4 : decode cX6_floor 4 = .ok (.ifCond .eq 8, 3) := by decide +kernel
theorem dX6_floor_7 : decode cX6_floor 7 = .ok (.bipush (-12), 2) := by decide +kernel
theorem dX6_floor_9 : decode cX6_floor 9 = .ok (.goto 4, 3) := by decide +kernel
theorem dX6_floor_12 : decode cX6_floor 12 = .ok (.iconst 0, 1) := by decide +kernel
theorem dX6_floor_13 : decode cX6_floor 13 = .ok (.ireturn, 1) := by decide +kernel
theorem dX6_filled_0 : decode cX6_filled 0 = .ok (.iload_n 1, 1) := by decide +kernel
theorem dX6_filled_1 : decode cX6_filled 1 = .ok (.iload_n 2, 1) := by decide +kernel
theorem dX6_filled_2 : decode cX6_filled 2 = .ok (.iadd, 1) := by decide +kernel
theorem dX6_filled_3 : decode cX6_filled 3 = .ok (.aload_n 0, 1) := by decide +kernel
theorem dX6_filled_4 : decode cX6_filled 4 = .ok (.getfield 9, 3) := by decide +kernel
theorem dX6_filled_7 : decode cX6_filled 7 = .ok (.invokestatic 41, 3) := by decide +kernel
theorem dX6_filled_10 : decode cX6_filled 10 = .ok (.ireturn, 1) := by decide +kernel
theorem dX6_leftOf_0 : decode cX6_leftOf 0 = .ok (.iload_n 1, 1) := by decide +kernel
theorem dX6_leftOf_1 : decode cX6_leftOf 1 = .ok (.iload_n 2, 1) := by decide +kernel
theorem dX6_leftOf_2 : decode cX6_leftOf 2 = .ok (.isub, 1) := by decide +kernel
theorem dX6_leftOf_3 : decode cX6_leftOf 3 = .ok (.aload_n 0, 1) := by decide +kernel
theorem dX6_leftOf_4 : decode cX6_leftOf 4 = .ok (.getfield 37, 3) := by decide +kernel
theorem dX6_leftOf_7 : decode cX6_leftOf 7 = .ok (.ifCond .eq 8, 3) := by decide +kernel
theorem dX6_leftOf_10 : decode cX6_leftOf 10 = .ok (.bipush (-12), 2) := by decide +kernel
theorem dX6_leftOf_12 : decode cX6_leftOf 12 = .ok (.goto 4, 3) := by decide +kernel
theorem dX6_leftOf_15 : decode cX6_leftOf 15 = .ok (.iconst 0, 1) := by decide +kernel
theorem dX6_leftOf_16 : decode cX6_leftOf 16 = .ok (.invokestatic 47, 3) := by decide +kernel
theorem dX6_leftOf_19 : decode cX6_leftOf 19 = .ok (.ireturn, 1) := by decide +kernel
theorem dX6_orderPrice_0 : decode cX6_orderPrice 0 = .ok (.iload_n 1, 1) := by decide +kernel
theorem dX6_orderPrice_1 : decode cX6_orderPrice 1 = .ok (.ifCond .le 17, 3) := by decide +kernel
theorem dX6_orderPrice_4 : decode cX6_orderPrice 4 = .ok (.aload_n 0, 1) := by decide +kernel
theorem dX6_orderPrice_5 : decode cX6_orderPrice 5 = .ok (.getfield 15, 3) := by decide +kernel
theorem dX6_orderPrice_8 : decode cX6_orderPrice 8 = .ok (.aload_n 0, 1) := by decide +kernel
theorem dX6_orderPrice_9 : decode cX6_orderPrice 9 = .ok (.getfield 18, 3) := by decide +kernel
theorem dX6_orderPrice_12 : decode cX6_orderPrice 12 = .ok (.iload_n 1, 1) := by decide +kernel
theorem dX6_orderPrice_13 : decode cX6_orderPrice 13 = .ok (.imul, 1) := by decide +kernel
theorem dX6_orderPrice_14 : decode cX6_orderPrice 14 = .ok (.iadd, 1) := by decide +kernel
theorem dX6_orderPrice_15 : decode cX6_orderPrice 15 = .ok (.goto 4, 3) := by decide +kernel
theorem dX6_orderPrice_18 : decode cX6_orderPrice 18 = .ok (.iconst 0, 1) := by decide +kernel
theorem dX6_orderPrice_19 : decode cX6_orderPrice 19 = .ok (.ireturn, 1) := by decide +kernel
theorem dX6_reckon_0 : decode cX6_reckon 0 = .ok (.iconst 0, 1) := by decide +kernel
theorem dX6_reckon_1 : decode cX6_reckon 1 = .ok (.istore_n 2, 1) := by decide +kernel
theorem dX6_reckon_2 : decode cX6_reckon 2 = .ok (.iload_n 2, 1) := by decide +kernel
theorem dX6_reckon_3 : decode cX6_reckon 3 = .ok (.bipush 25, 2) := by decide +kernel
theorem dX6_reckon_5 : decode cX6_reckon 5 = .ok (.if_icmp .ge 55, 3) := by decide +kernel
theorem dX6_reckon_8 : decode cX6_reckon 8 = .ok (.aload_n 0, 1) := by decide +kernel
theorem dX6_reckon_9 : decode cX6_reckon 9 = .ok (.getfield 27, 3) := by decide +kernel
theorem dX6_reckon_12 : decode cX6_reckon 12 = .ok (.iload_n 2, 1) := by decide +kernel
theorem dX6_reckon_13 : decode cX6_reckon 13 = .ok (.iconst 0, 1) := by decide +kernel
theorem dX6_reckon_14 : decode cX6_reckon 14 = .ok (.iastore, 1) := by decide +kernel
theorem dX6_reckon_15 : decode cX6_reckon 15 = .ok (.aload_n 0, 1) := by decide +kernel
theorem dX6_reckon_16 : decode cX6_reckon 16 = .ok (.getfield 31, 3) := by decide +kernel
theorem dX6_reckon_19 : decode cX6_reckon 19 = .ok (.iload_n 2, 1) := by decide +kernel
theorem dX6_reckon_20 : decode cX6_reckon 20 = .ok (.iconst 0, 1) := by decide +kernel
theorem dX6_reckon_21 : decode cX6_reckon 21 = .ok (.iastore, 1) := by decide +kernel
theorem dX6_reckon_22 : decode cX6_reckon 22 = .ok (.aload_n 0, 1) := by decide +kernel
theorem dX6_reckon_23 : decode cX6_reckon 23 = .ok (.getfield 34, 3) := by decide +kernel
theorem dX6_reckon_26 : decode cX6_reckon 26 = .ok (.iload_n 2, 1) := by decide +kernel
theorem dX6_reckon_27 : decode cX6_reckon 27 = .ok (.iconst 0, 1) := by decide +kernel
theorem dX6_reckon_28 : decode cX6_reckon 28 = .ok (.iastore, 1) := by decide +kernel
theorem dX6_reckon_29 : decode cX6_reckon 29 = .ok (.iconst 0, 1) := by decide +kernel
theorem dX6_reckon_30 : decode cX6_reckon 30 = .ok (.istore_n 3, 1) := by decide +kernel
theorem dX6_reckon_31 : decode cX6_reckon 31 = .ok (.iload_n 3, 1) := by decide +kernel
theorem dX6_reckon_32 : decode cX6_reckon 32 = .ok (.bipush 7, 2) := by decide +kernel
theorem dX6_reckon_34 : decode cX6_reckon 34 = .ok (.if_icmp .ge 20, 3) := by decide +kernel
theorem dX6_reckon_37 : decode cX6_reckon 37 = .ok (.aload_n 0, 1) := by decide +kernel
theorem dX6_reckon_38 : decode cX6_reckon 38 = .ok (.iload_n 2, 1) := by decide +kernel
theorem dX6_reckon_39 : decode cX6_reckon 39 = .ok (.iload_n 3, 1) := by decide +kernel
theorem dX6_reckon_40 : decode cX6_reckon 40 = .ok (.aload_n 1, 1) := by decide +kernel
theorem dX6_reckon_41 : decode cX6_reckon 41 = .ok (.iload_n 3, 1) := by decide +kernel
theorem dX6_reckon_42 : decode cX6_reckon 42 = .ok (.invokevirtual 50, 3) := by decide +kernel
theorem dX6_reckon_45 : decode cX6_reckon 45 = .ok (.invokevirtual 56, 3) := by decide +kernel
theorem dX6_reckon_48 : decode cX6_reckon 48 = .ok (.iinc 3 1, 3) := by decide +kernel
theorem dX6_reckon_51 : decode cX6_reckon 51 = .ok (.goto (-20), 3) := by decide +kernel
theorem dX6_reckon_54 : decode cX6_reckon 54 = .ok (.iinc 2 1, 3) := by decide +kernel
theorem dX6_reckon_57 : decode cX6_reckon 57 = .ok (.goto (-55), 3) := by decide +kernel
theorem dX6_reckon_60 : decode cX6_reckon 60 = .ok (.return_, 1) := by decide +kernel
theorem dX6_reckonDemand_0 : decode cX6_reckonDemand 0 = .ok (.iload_n 1, 1) := by decide +kernel
theorem dX6_reckonDemand_1 : decode cX6_reckonDemand 1 = .ok (.bipush (-12), 2) := by decide +kernel
theorem dX6_reckonDemand_3 : decode cX6_reckonDemand 3 = .ok (.iadd, 1) := by decide +kernel
theorem dX6_reckonDemand_4 : decode cX6_reckonDemand 4 = .ok (.istore 4, 2) := by decide +kernel
theorem dX6_reckonDemand_6 : decode cX6_reckonDemand 6 = .ok (.iload_n 2, 1) := by decide +kernel
theorem dX6_reckonDemand_7 : decode cX6_reckonDemand 7 = .ok (.iload 4, 2) := by decide +kernel
theorem dX6_reckonDemand_9 : decode cX6_reckonDemand 9 = .ok (.iconst 0, 1) := by decide +kernel
theorem dX6_reckonDemand_10 : decode cX6_reckonDemand 10 = .ok (.invokestatic 47, 3) := by decide +kernel
theorem dX6_reckonDemand_13 : decode cX6_reckonDemand 13 = .ok (.invokestatic 41, 3) := by decide +kernel
theorem dX6_reckonDemand_16 : decode cX6_reckonDemand 16 = .ok (.istore 5, 2) := by decide +kernel
theorem dX6_reckonDemand_18 : decode cX6_reckonDemand 18 = .ok (.aload_n 0, 1) := by decide +kernel
theorem dX6_reckonDemand_19 : decode cX6_reckonDemand 19 = .ok (.iload 4, 2) := by decide +kernel
theorem dX6_reckonDemand_21 : decode cX6_reckonDemand 21 = .ok (.iload_n 2, 1) := by decide +kernel
theorem dX6_reckonDemand_22 : decode cX6_reckonDemand 22 = .ok (.invokevirtual 60, 3) := by decide +kernel
theorem dX6_reckonDemand_25 : decode cX6_reckonDemand 25 = .ok (.iconst 0, 1) := by decide +kernel
theorem dX6_reckonDemand_26 : decode cX6_reckonDemand 26 = .ok (.invokestatic 47, 3) := by decide +kernel
theorem dX6_reckonDemand_29 : decode cX6_reckonDemand 29 = .ok (.istore 6, 2) := by decide +kernel
theorem dX6_reckonDemand_31 : decode cX6_reckonDemand 31 = .ok (.aload_n 0, 1) := by decide +kernel
theorem dX6_reckonDemand_32 : decode cX6_reckonDemand 32 = .ok (.getfield 27, 3) := by decide +kernel
theorem dX6_reckonDemand_35 : decode cX6_reckonDemand 35 = .ok (.iload_n 1, 1) := by decide +kernel
theorem dX6_reckonDemand_36 : decode cX6_reckonDemand 36 = .ok (.dup2, 1) := by decide +kernel
theorem dX6_reckonDemand_37 : decode cX6_reckonDemand 37 = .ok (.iaload, 1) := by decide +kernel
theorem dX6_reckonDemand_38 : decode cX6_reckonDemand 38 = .ok (.iload_n 3, 1) := by decide +kernel
theorem dX6_reckonDemand_39 : decode cX6_reckonDemand 39 = .ok (.aload_n 0, 1) := by decide +kernel
theorem dX6_reckonDemand_40 : decode cX6_reckonDemand 40 = .ok (.getfield 21, 3) := by decide +kernel
theorem dX6_reckonDemand_43 : decode cX6_reckonDemand 43 = .ok (.iload 6, 2) := by decide +kernel
theorem dX6_reckonDemand_45 : decode cX6_reckonDemand 45 = .ok (.imul, 1) := by decide +kernel
theorem dX6_reckonDemand_46 : decode cX6_reckonDemand 46 = .ok (.aload_n 0, 1) := by decide +kernel
theorem dX6_reckonDemand_47 : decode cX6_reckonDemand 47 = .ok (.getfield 24, 3) := by decide +kernel
theorem dX6_reckonDemand_50 : decode cX6_reckonDemand 50 = .ok (.iload_n 2, 1) := by decide +kernel
theorem dX6_reckonDemand_51 : decode cX6_reckonDemand 51 = .ok (.iload 5, 2) := by decide +kernel
theorem dX6_reckonDemand_53 : decode cX6_reckonDemand 53 = .ok (.isub, 1) := by decide +kernel
theorem dX6_reckonDemand_54 : decode cX6_reckonDemand 54 = .ok (.imul, 1) := by decide +kernel
theorem dX6_reckonDemand_55 : decode cX6_reckonDemand 55 = .ok (.iadd, 1) := by decide +kernel
theorem dX6_reckonDemand_56 : decode cX6_reckonDemand 56 = .ok (.imul, 1) := by decide +kernel
theorem dX6_reckonDemand_57 : decode cX6_reckonDemand 57 = .ok (.iadd, 1) := by decide +kernel
theorem dX6_reckonDemand_58 : decode cX6_reckonDemand 58 = .ok (.iastore, 1) := by decide +kernel
theorem dX6_reckonDemand_59 : decode cX6_reckonDemand 59 = .ok (.aload_n 0, 1) := by decide +kernel
theorem dX6_reckonDemand_60 : decode cX6_reckonDemand 60 = .ok (.getfield 31, 3) := by decide +kernel
theorem dX6_reckonDemand_63 : decode cX6_reckonDemand 63 = .ok (.iload_n 1, 1) := by decide +kernel
theorem dX6_reckonDemand_64 : decode cX6_reckonDemand 64 = .ok (.dup2, 1) := by decide +kernel
theorem dX6_reckonDemand_65 : decode cX6_reckonDemand 65 = .ok (.iaload, 1) := by decide +kernel
theorem dX6_reckonDemand_66 : decode cX6_reckonDemand 66 = .ok (.iload_n 3, 1) := by decide +kernel
theorem dX6_reckonDemand_67 : decode cX6_reckonDemand 67 = .ok (.iload 5, 2) := by decide +kernel
theorem dX6_reckonDemand_69 : decode cX6_reckonDemand 69 = .ok (.imul, 1) := by decide +kernel
theorem dX6_reckonDemand_70 : decode cX6_reckonDemand 70 = .ok (.iadd, 1) := by decide +kernel
theorem dX6_reckonDemand_71 : decode cX6_reckonDemand 71 = .ok (.iastore, 1) := by decide +kernel
theorem dX6_reckonDemand_72 : decode cX6_reckonDemand 72 = .ok (.aload_n 0, 1) := by decide +kernel
theorem dX6_reckonDemand_73 : decode cX6_reckonDemand 73 = .ok (.getfield 34, 3) := by decide +kernel
theorem dX6_reckonDemand_76 : decode cX6_reckonDemand 76 = .ok (.iload_n 1, 1) := by decide +kernel
theorem dX6_reckonDemand_77 : decode cX6_reckonDemand 77 = .ok (.dup2, 1) := by decide +kernel
theorem dX6_reckonDemand_78 : decode cX6_reckonDemand 78 = .ok (.iaload, 1) := by decide +kernel
theorem dX6_reckonDemand_79 : decode cX6_reckonDemand 79 = .ok (.iload 6, 2) := by decide +kernel
theorem dX6_reckonDemand_81 : decode cX6_reckonDemand 81 = .ok (.ifCond .le 7, 3) := by decide +kernel
theorem dX6_reckonDemand_84 : decode cX6_reckonDemand 84 = .ok (.iload_n 3, 1) := by decide +kernel
theorem dX6_reckonDemand_85 : decode cX6_reckonDemand 85 = .ok (.goto 4, 3) := by decide +kernel
theorem dX6_reckonDemand_88 : decode cX6_reckonDemand 88 = .ok (.iconst 0, 1) := by decide +kernel
theorem dX6_reckonDemand_89 : decode cX6_reckonDemand 89 = .ok (.iadd, 1) := by decide +kernel
theorem dX6_reckonDemand_90 : decode cX6_reckonDemand 90 = .ok (.iastore, 1) := by decide +kernel
theorem dX6_reckonDemand_91 : decode cX6_reckonDemand 91 = .ok (.return_, 1) := by decide +kernel
theorem dX6_priceFrom_0 : decode cX6_priceFrom 0 = .ok (.iload_n 1, 1) := by decide +kernel
theorem dX6_priceFrom_1 : decode cX6_priceFrom 1 = .ok (.invokestatic 63, 3) := by decide +kernel
theorem dX6_priceFrom_4 : decode cX6_priceFrom 4 = .ok (.ifCond .eq 15, 3) := by decide +kernel
theorem dX6_priceFrom_7 : decode cX6_priceFrom 7 = .ok (.aload_n 0, 1) := by decide +kernel
theorem dX6_priceFrom_8 : decode cX6_priceFrom 8 = .ok (.getfield 27, 3) := by decide +kernel
theorem dX6_priceFrom_11 : decode cX6_priceFrom 11 = .ok (.iload_n 1, 1) := by decide +kernel
theorem dX6_priceFrom_12 : decode cX6_priceFrom 12 = .ok (.bipush (-12), 2) := by decide +kernel
theorem dX6_priceFrom_14 : decode cX6_priceFrom 14 = .ok (.isub, 1) := by decide +kernel
theorem dX6_priceFrom_15 : decode cX6_priceFrom 15 = .ok (.iaload, 1) := by decide +kernel
theorem dX6_priceFrom_16 : decode cX6_priceFrom 16 = .ok (.goto 4, 3) := by decide +kernel
theorem dX6_priceFrom_19 : decode cX6_priceFrom 19 = .ok (.iconst 0, 1) := by decide +kernel
theorem dX6_priceFrom_20 : decode cX6_priceFrom 20 = .ok (.ireturn, 1) := by decide +kernel
theorem dX6_metFrom_0 : decode cX6_metFrom 0 = .ok (.iload_n 1, 1) := by decide +kernel
theorem dX6_metFrom_1 : decode cX6_metFrom 1 = .ok (.invokestatic 63, 3) := by decide +kernel
theorem dX6_metFrom_4 : decode cX6_metFrom 4 = .ok (.ifCond .eq 15, 3) := by decide +kernel
theorem dX6_metFrom_7 : decode cX6_metFrom 7 = .ok (.aload_n 0, 1) := by decide +kernel
theorem dX6_metFrom_8 : decode cX6_metFrom 8 = .ok (.getfield 31, 3) := by decide +kernel
theorem dX6_metFrom_11 : decode cX6_metFrom 11 = .ok (.iload_n 1, 1) := by decide +kernel
theorem dX6_metFrom_12 : decode cX6_metFrom 12 = .ok (.bipush (-12), 2) := by decide +kernel
theorem dX6_metFrom_14 : decode cX6_metFrom 14 = .ok (.isub, 1) := by decide +kernel
theorem dX6_metFrom_15 : decode cX6_metFrom 15 = .ok (.iaload, 1) := by decide +kernel
theorem dX6_metFrom_16 : decode cX6_metFrom 16 = .ok (.goto 4, 3) := by decide +kernel
theorem dX6_metFrom_19 : decode cX6_metFrom 19 = .ok (.iconst 0, 1) := by decide +kernel
theorem dX6_metFrom_20 : decode cX6_metFrom 20 = .ok (.ireturn, 1) := by decide +kernel
theorem dX6_inHandFrom_0 : decode cX6_inHandFrom 0 = .ok (.iload_n 1, 1) := by decide +kernel
theorem dX6_inHandFrom_1 : decode cX6_inHandFrom 1 = .ok (.invokestatic 63, 3) := by decide +kernel
theorem dX6_inHandFrom_4 : decode cX6_inHandFrom 4 = .ok (.ifCond .eq 15, 3) := by decide +kernel
theorem dX6_inHandFrom_7 : decode cX6_inHandFrom 7 = .ok (.aload_n 0, 1) := by decide +kernel
theorem dX6_inHandFrom_8 : decode cX6_inHandFrom 8 = .ok (.getfield 34, 3) := by decide +kernel
theorem dX6_inHandFrom_11 : decode cX6_inHandFrom 11 = .ok (.iload_n 1, 1) := by decide +kernel
theorem dX6_inHandFrom_12 : decode cX6_inHandFrom 12 = .ok (.bipush (-12), 2) := by decide +kernel
theorem dX6_inHandFrom_14 : decode cX6_inHandFrom 14 = .ok (.isub, 1) := by decide +kernel
theorem dX6_inHandFrom_15 : decode cX6_inHandFrom 15 = .ok (.iaload, 1) := by decide +kernel
theorem dX6_inHandFrom_16 : decode cX6_inHandFrom 16 = .ok (.goto 4, 3) := by decide +kernel
theorem dX6_inHandFrom_19 : decode cX6_inHandFrom 19 = .ok (.iconst 0, 1) := by decide +kernel
theorem dX6_inHandFrom_20 : decode cX6_inHandFrom 20 = .ok (.ireturn, 1) := by decide +kernel
theorem dX6_isHand_0 : decode cX6_isHand 0 = .ok (.iload_n 0, 1) := by decide +kernel
theorem dX6_isHand_1 : decode cX6_isHand 1 = .ok (.bipush (-12), 2) := by decide +kernel
theorem dX6_isHand_3 : decode cX6_isHand 3 = .ok (.if_icmp .lt 13, 3) := by decide +kernel
theorem dX6_isHand_6 : decode cX6_isHand 6 = .ok (.iload_n 0, 1) := by decide +kernel
theorem dX6_isHand_7 : decode cX6_isHand 7 = .ok (.bipush 12, 2) := by decide +kernel
theorem dX6_isHand_9 : decode cX6_isHand 9 = .ok (.if_icmp .gt 7, 3) := by decide +kernel
theorem dX6_isHand_12 : decode cX6_isHand 12 = .ok (.iconst 1, 1) := by decide +kernel
theorem dX6_isHand_13 : decode cX6_isHand 13 = .ok (.goto 4, 3) := by decide +kernel
theorem dX6_isHand_16 : decode cX6_isHand 16 = .ok (.iconst 0, 1) := by decide +kernel
theorem dX6_isHand_17 : decode cX6_isHand 17 = .ok (.ireturn, 1) := by decide +kernel
theorem dX7_init_0 : decode cX7_init 0 = .ok (.aload_n 0, 1) := by decide +kernel
theorem dX7_init_1 : decode cX7_init 1 = .ok (.invokespecial 3, 3) := by decide +kernel
theorem dX7_init_4 : decode cX7_init 4 = .ok (.aload_n 0, 1) := by decide +kernel
theorem dX7_init_5 : decode cX7_init 5 = .ok (.iconst 3, 1) := by decide +kernel
theorem dX7_init_6 : decode cX7_init 6 = .ok (.newarray .int, 2) := by decide +kernel
theorem dX7_init_8 : decode cX7_init 8 = .ok (.putfield 9, 3) := by decide +kernel
theorem dX7_init_11 : decode cX7_init 11 = .ok (.aload_n 0, 1) := by decide +kernel
theorem dX7_init_12 : decode cX7_init 12 = .ok (.aload_n 1, 1) := by decide +kernel
theorem dX7_init_13 : decode cX7_init 13 = .ok (.putfield 15, 3) := by decide +kernel
theorem dX7_init_16 : decode cX7_init 16 = .ok (.return_, 1) := by decide +kernel
theorem dX7_begin_0 : decode cX7_begin 0 = .ok (.aload_n 0, 1) := by decide +kernel
theorem dX7_begin_1 : decode cX7_begin 1 = .ok (.iload_n 1, 1) := by decide +kernel
theorem dX7_begin_2 : decode cX7_begin 2 = .ok (.putfield 19, 3) := by decide +kernel
theorem dX7_begin_5 : decode cX7_begin 5 = .ok (.aload_n 0, 1) := by decide +kernel
theorem dX7_begin_6 : decode cX7_begin 6 = .ok (.iconst 1, 1) := by decide +kernel
theorem dX7_begin_7 : decode cX7_begin 7 = .ok (.iload_n 2, 1) := by decide +kernel
theorem dX7_begin_8 : decode cX7_begin 8 = .ok (.iconst 3, 1) := by decide +kernel
theorem dX7_begin_9 : decode cX7_begin 9 = .ok (.invokestatic 23, 3) := by decide +kernel
theorem dX7_begin_12 : decode cX7_begin 12 = .ok (.invokestatic 29, 3) := by decide +kernel
theorem dX7_begin_15 : decode cX7_begin 15 = .ok (.putfield 32, 3) := by decide +kernel
theorem dX7_begin_18 : decode cX7_begin 18 = .ok (.aload_n 0, 1) := by decide +kernel
theorem dX7_begin_19 : decode cX7_begin 19 = .ok (.iload_n 3, 1) := by decide +kernel
theorem dX7_begin_20 : decode cX7_begin 20 = .ok (.putfield 35, 3) := by decide +kernel
theorem dX7_begin_23 : decode cX7_begin 23 = .ok (.aload_n 0, 1) := by decide +kernel
theorem dX7_begin_24 : decode cX7_begin 24 = .ok (.lconst 0, 1) := by decide +kernel
theorem dX7_begin_25 : decode cX7_begin 25 = .ok (.putfield 39, 3) := by decide +kernel
theorem dX7_begin_28 : decode cX7_begin 28 = .ok (.aload_n 0, 1) := by decide +kernel
theorem dX7_begin_29 : decode cX7_begin 29 = .ok (.getfield 15, 3) := by decide +kernel
theorem dX7_begin_32 : decode cX7_begin 32 = .ok (.iconst 0, 1) := by decide +kernel
theorem dX7_begin_33 : decode cX7_begin 33 = .ok (.invokevirtual 43, 3) := by decide +kernel
theorem dX7_begin_36 : decode cX7_begin 36 = .ok (.return_, 1) := by decide +kernel
theorem dX7_follow_0 : decode cX7_follow 0 = .ok (.iconst 1, 1) := by decide +kernel
theorem dX7_follow_1 : decode cX7_follow 1 = .ok (.istore_n 3, 1) := by decide +kernel
theorem dX7_follow_2 : decode cX7_follow 2 = .ok (.iload_n 3, 1) := by decide +kernel
theorem dX7_follow_3 : decode cX7_follow 3 = .ok (.iload_n 2, 1) := by decide +kernel
theorem dX7_follow_4 : decode cX7_follow 4 = .ok (.if_icmp .gt 65, 3) := by decide +kernel
theorem dX7_follow_7 : decode cX7_follow 7 = .ok (.aload_n 0, 1) := by decide +kernel
theorem dX7_follow_8 : decode cX7_follow 8 = .ok (.dup, 1) := by decide +kernel
theorem dX7_follow_9 : decode cX7_follow 9 = .ok (.getfield 39, 3) := by decide +kernel
theorem dX7_follow_12 : decode cX7_follow 12 = .ok (.aload_n 1, 1) := by decide +kernel
theorem dX7_follow_13 : decode cX7_follow 13 = .ok (.invokevirtual 49, 3) := by decide +kernel
theorem dX7_follow_16 : decode cX7_follow 16 = .ok (.i2l, 1) := by decide +kernel
theorem dX7_follow_17 : decode cX7_follow 17 = .ok (.lmul, 1) := by decide +kernel
theorem dX7_follow_18 : decode cX7_follow 18 = .ok (.putfield 39, 3) := by decide +kernel
theorem dX7_follow_21 : decode cX7_follow 21 = .ok (.iconst 0, 1) := by decide +kernel
theorem dX7_follow_22 : decode cX7_follow 22 = .ok (.istore 4, 2) := by decide +kernel
theorem dX7_follow_24 : decode cX7_follow 24 = .ok (.iload 4, 2) := by decide +kernel
theorem dX7_follow_26 : decode cX7_follow 26 = .ok (.aload_n 0, 1) := by decide +kernel
theorem dX7_follow_27 : decode cX7_follow 27 = .ok (.getfield 15, 3) := by decide +kernel
theorem dX7_follow_30 : decode cX7_follow 30 = .ok (.invokevirtual 55, 3) := by decide +kernel
theorem dX7_follow_33 : decode cX7_follow 33 = .ok (.if_icmp .ge 23, 3) := by decide +kernel
theorem dX7_follow_36 : decode cX7_follow 36 = .ok (.aload_n 0, 1) := by decide +kernel
theorem dX7_follow_37 : decode cX7_follow 37 = .ok (.aload_n 0, 1) := by decide +kernel
theorem dX7_follow_38 : decode cX7_follow 38 = .ok (.getfield 15, 3) := by decide +kernel
theorem dX7_follow_41 : decode cX7_follow 41 = .ok (.iload 4, 2) := by decide +kernel
theorem dX7_follow_43 : decode cX7_follow 43 = .ok (.invokevirtual 58, 3) := by decide +kernel
theorem dX7_follow_46 : decode cX7_follow 46 = .ok (.aload_n 1, 1) := by decide +kernel
theorem dX7_follow_47 : decode cX7_follow 47 = .ok (.invokevirtual 62, 3) := by decide +kernel
theorem dX7_follow_50 : decode cX7_follow 50 = .ok (.iinc 4 1, 3) := by decide +kernel
theorem dX7_follow_53 : decode cX7_follow 53 = .ok (.goto (-29), 3) := by decide +kernel
theorem dX7_follow_56 : decode cX7_follow 56 = .ok (.aload_n 0, 1) := by decide +kernel
theorem dX7_follow_57 : decode cX7_follow 57 = .ok (.getfield 15, 3) := by decide +kernel
theorem dX7_follow_60 : decode cX7_follow 60 = .ok (.invokevirtual 66, 3) := by decide +kernel
theorem dX7_follow_63 : decode cX7_follow 63 = .ok (.iinc 3 1, 3) := by decide +kernel
theorem dX7_follow_66 : decode cX7_follow 66 = .ok (.goto (-64), 3) := by decide +kernel
theorem dX7_follow_69 : decode cX7_follow 69 = .ok (.aload_n 0, 1) := by decide +kernel
theorem dX7_follow_70 : decode cX7_follow 70 = .ok (.getfield 39, 3) := by decide +kernel
theorem dX7_follow_73 : decode cX7_follow 73 = .ok (.lreturn, 1) := by decide +kernel
theorem dX7_passFrom_0 : decode cX7_passFrom 0 = .ok (.iconst 0, 1) := by decide +kernel
theorem dX7_passFrom_1 : decode cX7_passFrom 1 = .ok (.istore_n 3, 1) := by decide +kernel
theorem dX7_passFrom_2 : decode cX7_passFrom 2 = .ok (.iload_n 3, 1) := by decide +kernel
theorem dX7_passFrom_3 : decode cX7_passFrom 3 = .ok (.bipush 7, 2) := by decide +kernel
theorem dX7_passFrom_5 : decode cX7_passFrom 5 = .ok (.if_icmp .ge 166, 3) := by decide +kernel
theorem dX7_passFrom_8 : decode cX7_passFrom 8 = .ok (.aload_n 0, 1) := by decide +kernel
theorem dX7_passFrom_9 : decode cX7_passFrom 9 = .ok (.getfield 15, 3) := by decide +kernel
theorem dX7_passFrom_12 : decode cX7_passFrom 12 = .ok (.iload_n 1, 1) := by decide +kernel
theorem dX7_passFrom_13 : decode cX7_passFrom 13 = .ok (.invokevirtual 69, 3) := by decide +kernel
theorem dX7_passFrom_16 : decode cX7_passFrom 16 = .ok (.aload_n 2, 1) := by decide +kernel
theorem dX7_passFrom_17 : decode cX7_passFrom 17 = .ok (.iload_n 3, 1) := by decide +kernel
theorem dX7_passFrom_18 : decode cX7_passFrom 18 = .ok (.invokevirtual 73, 3) := by decide +kernel
theorem dX7_passFrom_21 : decode cX7_passFrom 21 = .ok (.i2l, 1) := by decide +kernel
theorem dX7_passFrom_22 : decode cX7_passFrom 22 = .ok (.lmul, 1) := by decide +kernel
theorem dX7_passFrom_23 : decode cX7_passFrom 23 = .ok (.lstore 4, 2) := by decide +kernel
theorem dX7_passFrom_25 : decode cX7_passFrom 25 = .ok (.lload 4, 2) := by decide +kernel
theorem dX7_passFrom_27 : decode cX7_passFrom 27 = .ok (.lconst 0, 1) := by decide +kernel
theorem dX7_passFrom_28 : decode cX7_passFrom 28 = .ok (.lcmp, 1) := by decide +kernel
theorem dX7_passFrom_29 : decode cX7_passFrom 29 = .ok (.ifCond .ne 6, 3) := by decide +kernel
theorem dX7_passFrom_32 : decode cX7_passFrom 32 = .ok (.goto 133, 3) := by decide +kernel
theorem dX7_passFrom_35 : decode cX7_passFrom 35 = .ok (.aload_n 0, 1) := by decide +kernel
theorem dX7_passFrom_36 : decode cX7_passFrom 36 = .ok (.getfield 9, 3) := by decide +kernel
theorem dX7_passFrom_39 : decode cX7_passFrom 39 = .ok (.iconst 1, 1) := by decide +kernel
theorem dX7_passFrom_40 : decode cX7_passFrom 40 = .ok (.iload_n 1, 1) := by decide +kernel
theorem dX7_passFrom_41 : decode cX7_passFrom 41 = .ok (.bipush 13, 2) := by decide +kernel
theorem dX7_passFrom_43 : decode cX7_passFrom 43 = .ok (.irem, 1) := by decide +kernel
theorem dX7_passFrom_44 : decode cX7_passFrom 44 = .ok (.iastore, 1) := by decide +kernel
theorem dX7_passFrom_45 : decode cX7_passFrom 45 = .ok (.aload_n 0, 1) := by decide +kernel
theorem dX7_passFrom_46 : decode cX7_passFrom 46 = .ok (.getfield 9, 3) := by decide +kernel
theorem dX7_passFrom_49 : decode cX7_passFrom 49 = .ok (.iconst 2, 1) := by decide +kernel
theorem dX7_passFrom_50 : decode cX7_passFrom 50 = .ok (.iload_n 1, 1) := by decide +kernel
theorem dX7_passFrom_51 : decode cX7_passFrom 51 = .ok (.bipush 13, 2) := by decide +kernel
theorem dX7_passFrom_53 : decode cX7_passFrom 53 = .ok (.idiv, 1) := by decide +kernel
theorem dX7_passFrom_54 : decode cX7_passFrom 54 = .ok (.iastore, 1) := by decide +kernel
theorem dX7_passFrom_55 : decode cX7_passFrom 55 = .ok (.aload_n 0, 1) := by decide +kernel
theorem dX7_passFrom_56 : decode cX7_passFrom 56 = .ok (.getfield 9, 3) := by decide +kernel
theorem dX7_passFrom_59 : decode cX7_passFrom 59 = .ok (.iconst 0, 1) := by decide +kernel
theorem dX7_passFrom_60 : decode cX7_passFrom 60 = .ok (.aload_n 0, 1) := by decide +kernel
theorem dX7_passFrom_61 : decode cX7_passFrom 61 = .ok (.getfield 19, 3) := by decide +kernel
theorem dX7_passFrom_64 : decode cX7_passFrom 64 = .ok (.aload_n 0, 1) := by decide +kernel
theorem dX7_passFrom_65 : decode cX7_passFrom 65 = .ok (.getfield 9, 3) := by decide +kernel
theorem dX7_passFrom_68 : decode cX7_passFrom 68 = .ok (.iconst 1, 1) := by decide +kernel
theorem dX7_passFrom_69 : decode cX7_passFrom 69 = .ok (.iaload, 1) := by decide +kernel
theorem dX7_passFrom_70 : decode cX7_passFrom 70 = .ok (.isub, 1) := by decide +kernel
theorem dX7_passFrom_71 : decode cX7_passFrom 71 = .ok (.aload_n 0, 1) := by decide +kernel
theorem dX7_passFrom_72 : decode cX7_passFrom 72 = .ok (.getfield 9, 3) := by decide +kernel
theorem dX7_passFrom_75 : decode cX7_passFrom 75 = .ok (.iconst 2, 1) := by decide +kernel
theorem dX7_passFrom_76 : decode cX7_passFrom 76 = .ok (.iaload, 1) := by decide +kernel
theorem dX7_passFrom_77 : decode cX7_passFrom 77 = .ok (.isub, 1) := by decide +kernel
theorem dX7_passFrom_78 : decode cX7_passFrom 78 = .ok (.iastore, 1) := by decide +kernel
theorem dX7_passFrom_79 : decode cX7_passFrom 79 = .ok (.aload_n 0, 1) := by decide +kernel
theorem dX7_passFrom_80 : decode cX7_passFrom 80 = .ok (.iload_n 3, 1) := by decide +kernel
theorem dX7_passFrom_81 : decode cX7_passFrom 81 = .ok (.invokevirtual 76, 3) := by decide +kernel
theorem dX7_passFrom_84 : decode cX7_passFrom 84 = .ok (.aload_n 0, 1) := by decide +kernel
theorem dX7_passFrom_85 : decode cX7_passFrom 85 = .ok (.dup, 1) := by decide +kernel
theorem dX7_passFrom_86 : decode cX7_passFrom 86 = .ok (.getfield 39, 3) := by decide +kernel
theorem dX7_passFrom_89 : decode cX7_passFrom 89 = .ok (.lload 4, 2) := by decide +kernel
theorem dX7_passFrom_91 : decode cX7_passFrom 91 = .ok (.aload_n 0, 1) := by decide +kernel
theorem dX7_passFrom_92 : decode cX7_passFrom 92 = .ok (.getfield 9, 3) := by decide +kernel
theorem dX7_passFrom_95 : decode cX7_passFrom 95 = .ok (.aload_n 0, 1) := by decide +kernel
theorem dX7_passFrom_96 : decode cX7_passFrom 96 = .ok (.getfield 32, 3) := by decide +kernel
theorem dX7_passFrom_99 : decode cX7_passFrom 99 = .ok (.iconst 1, 1) := by decide +kernel
theorem dX7_passFrom_100 : decode cX7_passFrom 100 = .ok (.isub, 1) := by decide +kernel
theorem dX7_passFrom_101 : decode cX7_passFrom 101 = .ok (.iaload, 1) := by decide +kernel
theorem dX7_passFrom_102 : decode cX7_passFrom 102 = .ok (.i2l, 1) := by decide +kernel
theorem dX7_passFrom_103 : decode cX7_passFrom 103 = .ok (.lmul, 1) := by decide +kernel
theorem dX7_passFrom_104 : decode cX7_passFrom 104 = .ok (.ladd, 1) := by decide +kernel
theorem dX7_passFrom_105 : decode cX7_passFrom 105 = .ok (.putfield 39, 3) := by decide +kernel
theorem dX7_passFrom_108 : decode cX7_passFrom 108 = .ok (.aload_n 0, 1) := by decide +kernel
theorem dX7_passFrom_109 : decode cX7_passFrom 109 = .ok (.getfield 32, 3) := by decide +kernel
theorem dX7_passFrom_112 : decode cX7_passFrom 112 = .ok (.iconst 1, 1) := by decide +kernel
theorem dX7_passFrom_113 : decode cX7_passFrom 113 = .ok (.if_icmp .le 12, 3) := by decide +kernel
theorem dX7_passFrom_116 : decode cX7_passFrom 116 = .ok (.aload_n 0, 1) := by decide +kernel
theorem dX7_passFrom_117 : decode cX7_passFrom 117 = .ok (.getfield 9, 3) := by decide +kernel
theorem dX7_passFrom_120 : decode cX7_passFrom 120 = .ok (.iconst 0, 1) := by decide +kernel
theorem dX7_passFrom_121 : decode cX7_passFrom 121 = .ok (.iaload, 1) := by decide +kernel
theorem dX7_passFrom_122 : decode cX7_passFrom 122 = .ok (.goto 4, 3) := by decide +kernel
theorem dX7_passFrom_125 : decode cX7_passFrom 125 = .ok (.iconst 0, 1) := by decide +kernel
theorem dX7_passFrom_126 : decode cX7_passFrom 126 = .ok (.istore 6, 2) := by decide +kernel
theorem dX7_passFrom_128 : decode cX7_passFrom 128 = .ok (.aload_n 0, 1) := by decide +kernel
theorem dX7_passFrom_129 : decode cX7_passFrom 129 = .ok (.getfield 32, 3) := by decide +kernel
theorem dX7_passFrom_132 : decode cX7_passFrom 132 = .ok (.iconst 2, 1) := by decide +kernel
theorem dX7_passFrom_133 : decode cX7_passFrom 133 = .ok (.if_icmp .le 12, 3) := by decide +kernel
theorem dX7_passFrom_136 : decode cX7_passFrom 136 = .ok (.aload_n 0, 1) := by decide +kernel
theorem dX7_passFrom_137 : decode cX7_passFrom 137 = .ok (.getfield 9, 3) := by decide +kernel
theorem dX7_passFrom_140 : decode cX7_passFrom 140 = .ok (.iconst 1, 1) := by decide +kernel
theorem dX7_passFrom_141 : decode cX7_passFrom 141 = .ok (.iaload, 1) := by decide +kernel
theorem dX7_passFrom_142 : decode cX7_passFrom 142 = .ok (.goto 4, 3) := by decide +kernel
theorem dX7_passFrom_145 : decode cX7_passFrom 145 = .ok (.iconst 0, 1) := by decide +kernel
theorem dX7_passFrom_146 : decode cX7_passFrom 146 = .ok (.istore 7, 2) := by decide +kernel
theorem dX7_passFrom_148 : decode cX7_passFrom 148 = .ok (.aload_n 0, 1) := by decide +kernel
theorem dX7_passFrom_149 : decode cX7_passFrom 149 = .ok (.getfield 15, 3) := by decide +kernel
theorem dX7_passFrom_152 : decode cX7_passFrom 152 = .ok (.iload 7, 2) := by decide +kernel
theorem dX7_passFrom_154 : decode cX7_passFrom 154 = .ok (.bipush 13, 2) := by decide +kernel
theorem dX7_passFrom_156 : decode cX7_passFrom 156 = .ok (.imul, 1) := by decide +kernel
theorem dX7_passFrom_157 : decode cX7_passFrom 157 = .ok (.iload 6, 2) := by decide +kernel
theorem dX7_passFrom_159 : decode cX7_passFrom 159 = .ok (.iadd, 1) := by decide +kernel
theorem dX7_passFrom_160 : decode cX7_passFrom 160 = .ok (.lload 4, 2) := by decide +kernel
theorem dX7_passFrom_162 : decode cX7_passFrom 162 = .ok (.invokevirtual 79, 3) := by decide +kernel
theorem dX7_passFrom_165 : decode cX7_passFrom 165 = .ok (.iinc 3 1, 3) := by decide +kernel
theorem dX7_passFrom_168 : decode cX7_passFrom 168 = .ok (.goto (-166), 3) := by decide +kernel
theorem dX7_passFrom_171 : decode cX7_passFrom 171 = .ok (.return_, 1) := by decide +kernel
theorem dX7_give_0 : decode cX7_give 0 = .ok (.iload_n 1, 1) := by decide +kernel
theorem dX7_give_1 : decode cX7_give 1 = .ok (.istore_n 2, 1) := by decide +kernel
theorem dX7_give_2 : decode cX7_give 2 = .ok (.iconst 0, 1) := by decide +kernel
theorem dX7_give_3 : decode cX7_give 3 = .ok (.istore_n 3, 1) := by decide +kernel
theorem dX7_give_4 : decode cX7_give 4 = .ok (.iload_n 3, 1) := by decide +kernel
theorem dX7_give_5 : decode cX7_give 5 = .ok (.aload_n 0, 1) := by decide +kernel
theorem dX7_give_6 : decode cX7_give 6 = .ok (.getfield 32, 3) := by decide +kernel
theorem dX7_give_9 : decode cX7_give 9 = .ok (.if_icmp .ge 60, 3) := by decide +kernel
theorem dX7_give_12 : decode cX7_give 12 = .ok (.aload_n 0, 1) := by decide +kernel
theorem dX7_give_13 : decode cX7_give 13 = .ok (.getfield 35, 3) := by decide +kernel
theorem dX7_give_16 : decode cX7_give 16 = .ok (.ifCond .eq 7, 3) := by decide +kernel
theorem dX7_give_19 : decode cX7_give 19 = .ok (.iload_n 3, 1) := by decide +kernel
theorem dX7_give_20 : decode cX7_give 20 = .ok (.goto 11, 3) := by decide +kernel
theorem dX7_give_23 : decode cX7_give 23 = .ok (.aload_n 0, 1) := by decide +kernel
theorem dX7_give_24 : decode cX7_give 24 = .ok (.getfield 32, 3) := by decide +kernel
theorem dX7_give_27 : decode cX7_give 27 = .ok (.iconst 1, 1) := by decide +kernel
theorem dX7_give_28 : decode cX7_give 28 = .ok (.isub, 1) := by decide +kernel
theorem dX7_give_29 : decode cX7_give 29 = .ok (.iload_n 3, 1) := by decide +kernel
theorem dX7_give_30 : decode cX7_give 30 = .ok (.isub, 1) := by decide +kernel
theorem dX7_give_31 : decode cX7_give 31 = .ok (.istore 4, 2) := by decide +kernel
theorem dX7_give_33 : decode cX7_give 33 = .ok (.iload_n 2, 1) := by decide +kernel
theorem dX7_give_34 : decode cX7_give 34 = .ok (.aload_n 0, 1) := by decide +kernel
theorem dX7_give_35 : decode cX7_give 35 = .ok (.getfield 9, 3) := by decide +kernel
theorem dX7_give_38 : decode cX7_give 38 = .ok (.iload 4, 2) := by decide +kernel
theorem dX7_give_40 : decode cX7_give 40 = .ok (.iaload, 1) := by decide +kernel
theorem dX7_give_41 : decode cX7_give 41 = .ok (.invokestatic 23, 3) := by decide +kernel
theorem dX7_give_44 : decode cX7_give 44 = .ok (.istore 5, 2) := by decide +kernel
theorem dX7_give_46 : decode cX7_give 46 = .ok (.aload_n 0, 1) := by decide +kernel
theorem dX7_give_47 : decode cX7_give 47 = .ok (.getfield 9, 3) := by decide +kernel
theorem dX7_give_50 : decode cX7_give 50 = .ok (.iload 4, 2) := by decide +kernel
theorem dX7_give_52 : decode cX7_give 52 = .ok (.dup2, 1) := by decide +kernel
theorem dX7_give_53 : decode cX7_give 53 = .ok (.iaload, 1) := by decide +kernel
theorem dX7_give_54 : decode cX7_give 54 = .ok (.iload 5, 2) := by decide +kernel
theorem dX7_give_56 : decode cX7_give 56 = .ok (.isub, 1) := by decide +kernel
theorem dX7_give_57 : decode cX7_give 57 = .ok (.iastore, 1) := by decide +kernel
theorem dX7_give_58 : decode cX7_give 58 = .ok (.iload_n 2, 1) := by decide +kernel
theorem dX7_give_59 : decode cX7_give 59 = .ok (.iload 5, 2) := by decide +kernel
theorem dX7_give_61 : decode cX7_give 61 = .ok (.isub, 1) := by decide +kernel
theorem dX7_give_62 : decode cX7_give 62 = .ok (.istore_n 2, 1) := by decide +kernel
theorem dX7_give_63 : decode cX7_give 63 = .ok (.iinc 3 1, 3) := by decide +kernel
theorem dX7_give_66 : decode cX7_give 66 = .ok (.goto (-62), 3) := by decide +kernel
theorem dX7_give_69 : decode cX7_give 69 = .ok (.return_, 1) := by decide +kernel
theorem dX8_init_0 : decode cX8_init 0 = .ok (.aload_n 0, 1) := by decide +kernel
theorem dX8_init_1 : decode cX8_init 1 = .ok (.invokespecial 5, 3) := by decide +kernel
theorem dX8_init_4 : decode cX8_init 4 = .ok (.aload_n 0, 1) := by decide +kernel
theorem dX8_init_5 : decode cX8_init 5 = .ok (.sipush 481, 3) := by decide +kernel
theorem dX8_init_8 : decode cX8_init 8 = .ok (.newarray .long, 2) := by decide +kernel
theorem dX8_init_10 : decode cX8_init 10 = .ok (.putfield 13, 3) := by decide +kernel
theorem dX8_init_13 : decode cX8_init 13 = .ok (.aload_n 0, 1) := by decide +kernel
theorem dX8_init_14 : decode cX8_init 14 = .ok (.sipush 481, 3) := by decide +kernel
theorem dX8_init_17 : decode cX8_init 17 = .ok (.newarray .long, 2) := by decide +kernel
theorem dX8_init_19 : decode cX8_init 19 = .ok (.putfield 17, 3) := by decide +kernel
theorem dX8_init_22 : decode cX8_init 22 = .ok (.aload_n 0, 1) := by decide +kernel
theorem dX8_init_23 : decode cX8_init 23 = .ok (.sipush 481, 3) := by decide +kernel
theorem dX8_init_26 : decode cX8_init 26 = .ok (.newarray .int, 2) := by decide +kernel
theorem dX8_init_28 : decode cX8_init 28 = .ok (.putfield 20, 3) := by decide +kernel
theorem dX8_init_31 : decode cX8_init 31 = .ok (.aload_n 0, 1) := by decide +kernel
theorem dX8_init_32 : decode cX8_init 32 = .ok (.sipush 481, 3) := by decide +kernel
theorem dX8_init_35 : decode cX8_init 35 = .ok (.newarray .int, 2) := by decide +kernel
theorem dX8_init_37 : decode cX8_init 37 = .ok (.putfield 24, 3) := by decide +kernel
theorem dX8_init_40 : decode cX8_init 40 = .ok (.return_, 1) := by decide +kernel
theorem dX8_startAt_0 : decode cX8_startAt 0 = .ok (.aload_n 0, 1) := by decide +kernel
theorem dX8_startAt_1 : decode cX8_startAt 1 = .ok (.iload_n 1, 1) := by decide +kernel
theorem dX8_startAt_2 : decode cX8_startAt 2 = .ok (.lconst 1, 1) := by decide +kernel
theorem dX8_startAt_3 : decode cX8_startAt 3 = .ok (.invokevirtual 27, 3) := by decide +kernel
theorem dX8_startAt_6 : decode cX8_startAt 6 = .ok (.aload_n 0, 1) := by decide +kernel
theorem dX8_startAt_7 : decode cX8_startAt 7 = .ok (.invokevirtual 31, 3) := by decide +kernel
theorem dX8_startAt_10 : decode cX8_startAt 10 = .ok (.return_, 1) := by decide +kernel
theorem dX8_add_0 : decode cX8_add 0 = .ok (.iload_n 1, 1) := by decide +kernel
theorem dX8_add_1 : decode cX8_add 1 = .ok (.ifCond .lt 16, 3) := by decide +kernel
theorem dX8_add_4 : decode cX8_add 4 = .ok (.iload_n 1, 1) := by decide +kernel
theorem dX8_add_5 : decode cX8_add 5 = .ok (.sipush 481, 3) := by decide +kernel
theorem dX8_add_8 : decode cX8_add 8 = .ok (.if_icmp .ge 9, 3) := by decide +kernel
theorem dX8_add_11 : decode cX8_add 11 = .ok (.lload_n 2, 1) := by decide +kernel
theorem dX8_add_12 : decode cX8_add 12 = .ok (.lconst 0, 1) := by decide +kernel
theorem dX8_add_13 : decode cX8_add 13 = .ok (.lcmp, 1) := by decide +kernel
theorem dX8_add_14 : decode cX8_add 14 = .ok (.ifCond .gt 4, 3) := by decide +kernel
theorem dX8_add_17 : decode cX8_add 17 = .ok (.return_, 1) := by decide +kernel
theorem dX8_add_18 : decode cX8_add 18 = .ok (.aload_n 0, 1) := by decide +kernel
theorem dX8_add_19 : decode cX8_add 19 = .ok (.getfield 17, 3) := by decide +kernel
theorem dX8_add_22 : decode cX8_add 22 = .ok (.iload_n 1, 1) := by decide +kernel
theorem dX8_add_23 : decode cX8_add 23 = .ok (.laload, 1) := by decide +kernel
theorem dX8_add_24 : decode cX8_add 24 = .ok (.lconst 0, 1) := by decide +kernel
theorem dX8_add_25 : decode cX8_add 25 = .ok (.lcmp, 1) := by decide +kernel
theorem dX8_add_26 : decode cX8_add 26 = .ok (.ifCond .ne 33, 3) := by decide +kernel
theorem dX8_add_29 : decode cX8_add 29 = .ok (.aload_n 0, 1) := by decide +kernel
theorem dX8_add_30 : decode cX8_add 30 = .ok (.getfield 34, 3) := by decide +kernel
theorem dX8_add_33 : decode cX8_add 33 = .ok (.sipush 481, 3) := by decide +kernel
theorem dX8_add_36 : decode cX8_add 36 = .ok (.if_icmp .ge 23, 3) := by decide +kernel
theorem dX8_add_39 : decode cX8_add 39 = .ok (.aload_n 0, 1) := by decide +kernel
theorem dX8_add_40 : decode cX8_add 40 = .ok (.getfield 24, 3) := by decide +kernel
theorem dX8_add_43 : decode cX8_add 43 = .ok (.aload_n 0, 1) := by decide +kernel
theorem dX8_add_44 : decode cX8_add 44 = .ok (.getfield 34, 3) := by decide +kernel
theorem dX8_add_47 : decode cX8_add 47 = .ok (.iload_n 1, 1) := by decide +kernel
theorem dX8_add_48 : decode cX8_add 48 = .ok (.iastore, 1) := by decide +kernel
theorem dX8_add_49 : decode cX8_add 49 = .ok (.aload_n 0, 1) := by decide +kernel
theorem dX8_add_50 : decode cX8_add 50 = .ok (.dup, 1) := by decide +kernel
theorem dX8_add_51 : decode cX8_add 51 = .ok (.getfield 34, 3) := by decide +kernel
theorem dX8_add_54 : decode cX8_add 54 = .ok (.iconst 1, 1) := by decide +kernel
theorem dX8_add_55 : decode cX8_add 55 = .ok (.iadd, 1) := by decide +kernel
theorem dX8_add_56 : decode cX8_add 56 = .ok (.putfield 34, 3) := by decide +kernel
theorem dX8_add_59 : decode cX8_add 59 = .ok (.aload_n 0, 1) := by decide +kernel
theorem dX8_add_60 : decode cX8_add 60 = .ok (.getfield 17, 3) := by decide +kernel
theorem dX8_add_63 : decode cX8_add 63 = .ok (.iload_n 1, 1) := by decide +kernel
theorem dX8_add_64 : decode cX8_add 64 = .ok (.dup2, 1) := by decide +kernel
theorem dX8_add_65 : decode cX8_add 65 = .ok (.laload, 1) := by decide +kernel
theorem dX8_add_66 : decode cX8_add 66 = .ok (.lload_n 2, 1) := by decide +kernel
theorem dX8_add_67 : decode cX8_add 67 = .ok (.ladd, 1) := by decide +kernel
theorem dX8_add_68 : decode cX8_add 68 = .ok (.lastore, 1) := by decide +kernel
theorem dX8_add_69 : decode cX8_add 69 = .ok (.return_, 1) := by decide +kernel
theorem dX8_turnToTomorrow_0 : decode cX8_turnToTomorrow 0 = .ok (.iconst 0, 1) := by decide +kernel
theorem dX8_turnToTomorrow_1 : decode cX8_turnToTomorrow 1 = .ok (.istore_n 1, 1) := by decide +kernel
theorem dX8_turnToTomorrow_2 : decode cX8_turnToTomorrow 2 = .ok (.iload_n 1, 1) := by decide +kernel
theorem dX8_turnToTomorrow_3 : decode cX8_turnToTomorrow 3 = .ok (.aload_n 0, 1) := by decide +kernel
theorem dX8_turnToTomorrow_4 : decode cX8_turnToTomorrow 4 = .ok (.getfield 38, 3) := by decide +kernel
theorem dX8_turnToTomorrow_7 : decode cX8_turnToTomorrow 7 = .ok (.if_icmp .ge 29, 3) := by decide +kernel
theorem dX8_turnToTomorrow_10 : decode cX8_turnToTomorrow 10 = .ok (.aload_n 0, 1) := by decide +kernel
theorem dX8_turnToTomorrow_11 : decode cX8_turnToTomorrow 11 = .ok (.iload_n 1, 1) := by decide +kernel
theorem dX8_turnToTomorrow_12 : decode cX8_turnToTomorrow 12 = .ok (.invokevirtual 41, 3) := by decide +kernel
theorem dX8_turnToTomorrow_15 : decode cX8_turnToTomorrow 15 = .ok (.istore_n 2, 1) := by decide +kernel
theorem dX8_turnToTomorrow_16 : decode cX8_turnToTomorrow 16 = .ok (.iload_n 2, 1) := by decide +kernel
theorem dX8_turnToTomorrow_17 : decode cX8_turnToTomorrow 17 = .ok (.invokestatic 45, 3) := by decide +kernel
theorem dX8_turnToTomorrow_20 : decode cX8_turnToTomorrow 20 = .ok (.ifCond .eq 10, 3) := by decide +kernel
theorem dX8_turnToTomorrow_23 : decode cX8_turnToTomorrow 23 = .ok (.aload_n 0, 1) := by decide +kernel
theorem dX8_turnToTomorrow_24 : decode cX8_turnToTomorrow 24 = .ok (.getfield 13, 3) := by decide +kernel
theorem dX8_turnToTomorrow_27 : decode cX8_turnToTomorrow 27 = .ok (.iload_n 2, 1) := by decide +kernel
theorem dX8_turnToTomorrow_28 : decode cX8_turnToTomorrow 28 = .ok (.lconst 0, 1) := by decide +kernel
theorem dX8_turnToTomorrow_29 : decode cX8_turnToTomorrow 29 = .ok (.lastore, 1) := by decide +kernel
theorem dX8_turnToTomorrow_30 : decode cX8_turnToTomorrow 30 = .ok (.iinc 1 1, 3) := by decide +kernel
theorem dX8_turnToTomorrow_33 : decode cX8_turnToTomorrow 33 = .ok (.goto (-31), 3) := by decide +kernel
theorem dX8_turnToTomorrow_36 : decode cX8_turnToTomorrow 36 = .ok (.aload_n 0, 1) := by decide +kernel
theorem dX8_turnToTomorrow_37 : decode cX8_turnToTomorrow 37 = .ok (.getfield 13, 3) := by decide +kernel
theorem dX8_turnToTomorrow_40 : decode cX8_turnToTomorrow 40 = .ok (.astore_n 1, 1) := by decide +kernel
theorem dX8_turnToTomorrow_41 : decode cX8_turnToTomorrow 41 = .ok (.aload_n 0, 1) := by decide +kernel
theorem dX8_turnToTomorrow_42 : decode cX8_turnToTomorrow 42 = .ok (.aload_n 0, 1) := by decide +kernel
theorem dX8_turnToTomorrow_43 : decode cX8_turnToTomorrow 43 = .ok (.getfield 17, 3) := by decide +kernel
theorem dX8_turnToTomorrow_46 : decode cX8_turnToTomorrow 46 = .ok (.putfield 13, 3) := by decide +kernel
theorem dX8_turnToTomorrow_49 : decode cX8_turnToTomorrow 49 = .ok (.aload_n 0, 1) := by decide +kernel
theorem dX8_turnToTomorrow_50 : decode cX8_turnToTomorrow 50 = .ok (.aload_n 1, 1) := by decide +kernel
theorem dX8_turnToTomorrow_51 : decode cX8_turnToTomorrow 51 = .ok (.putfield 17, 3) := by decide +kernel
theorem dX8_turnToTomorrow_54 : decode cX8_turnToTomorrow 54 = .ok (.aload_n 0, 1) := by decide +kernel
theorem dX8_turnToTomorrow_55 : decode cX8_turnToTomorrow 55 = .ok (.getfield 20, 3) := by decide +kernel
theorem dX8_turnToTomorrow_58 : decode cX8_turnToTomorrow 58 = .ok (.astore_n 2, 1) := by decide +kernel
theorem dX8_turnToTomorrow_59 : decode cX8_turnToTomorrow 59 = .ok (.aload_n 0, 1) := by decide +kernel
theorem dX8_turnToTomorrow_60 : decode cX8_turnToTomorrow 60 = .ok (.aload_n 0, 1) := by decide +kernel
theorem dX8_turnToTomorrow_61 : decode cX8_turnToTomorrow 61 = .ok (.getfield 24, 3) := by decide +kernel
theorem dX8_turnToTomorrow_64 : decode cX8_turnToTomorrow 64 = .ok (.putfield 20, 3) := by decide +kernel
theorem dX8_turnToTomorrow_67 : decode cX8_turnToTomorrow 67 = .ok (.aload_n 0, 1) := by decide +kernel
theorem dX8_turnToTomorrow_68 : decode cX8_turnToTomorrow 68 = .ok (.aload_n 2, 1) := by decide +kernel
theorem dX8_turnToTomorrow_69 : decode cX8_turnToTomorrow 69 = .ok (.putfield 24, 3) := by decide +kernel
theorem dX8_turnToTomorrow_72 : decode cX8_turnToTomorrow 72 = .ok (.aload_n 0, 1) := by decide +kernel
theorem dX8_turnToTomorrow_73 : decode cX8_turnToTomorrow 73 = .ok (.aload_n 0, 1) := by decide +kernel
theorem dX8_turnToTomorrow_74 : decode cX8_turnToTomorrow 74 = .ok (.getfield 34, 3) := by decide +kernel
theorem dX8_turnToTomorrow_77 : decode cX8_turnToTomorrow 77 = .ok (.putfield 38, 3) := by decide +kernel
theorem dX8_turnToTomorrow_80 : decode cX8_turnToTomorrow 80 = .ok (.aload_n 0, 1) := by decide +kernel
theorem dX8_turnToTomorrow_81 : decode cX8_turnToTomorrow 81 = .ok (.iconst 0, 1) := by decide +kernel
theorem dX8_turnToTomorrow_82 : decode cX8_turnToTomorrow 82 = .ok (.putfield 34, 3) := by decide +kernel
theorem dX8_turnToTomorrow_85 : decode cX8_turnToTomorrow 85 = .ok (.return_, 1) := by decide +kernel
theorem dX8_places_0 : decode cX8_places 0 = .ok (.aload_n 0, 1) := by decide +kernel
theorem dX8_places_1 : decode cX8_places 1 = .ok (.getfield 38, 3) := by decide +kernel
theorem dX8_places_4 : decode cX8_places 4 = .ok (.ireturn, 1) := by decide +kernel
theorem dX8_placeAt_0 : decode cX8_placeAt 0 = .ok (.iload_n 1, 1) := by decide +kernel
theorem dX8_placeAt_1 : decode cX8_placeAt 1 = .ok (.invokestatic 45, 3) := by decide +kernel
theorem dX8_placeAt_4 : decode cX8_placeAt 4 = .ok (.ifCond .eq 12, 3) := by decide +kernel
theorem dX8_placeAt_7 : decode cX8_placeAt 7 = .ok (.aload_n 0, 1) := by decide +kernel
theorem dX8_placeAt_8 : decode cX8_placeAt 8 = .ok (.getfield 20, 3) := by decide +kernel
theorem dX8_placeAt_11 : decode cX8_placeAt 11 = .ok (.iload_n 1, 1) := by decide +kernel
theorem dX8_placeAt_12 : decode cX8_placeAt 12 = .ok (.iaload, 1) := by decide +kernel
theorem dX8_placeAt_13 : decode cX8_placeAt 13 = .ok (.goto 4, 3) := by decide +kernel
theorem dX8_placeAt_16 : decode cX8_placeAt 16 = .ok (.iconst 0, 1) := by decide +kernel
theorem dX8_placeAt_17 : decode cX8_placeAt 17 = .ok (.ireturn, 1) := by decide +kernel
theorem dX8_weightAt_0 : decode cX8_weightAt 0 = .ok (.iload_n 1, 1) := by decide +kernel
theorem dX8_weightAt_1 : decode cX8_weightAt 1 = .ok (.invokestatic 45, 3) := by decide +kernel
theorem dX8_weightAt_4 : decode cX8_weightAt 4 = .ok (.ifCond .eq 12, 3) := by decide +kernel
theorem dX8_weightAt_7 : decode cX8_weightAt 7 = .ok (.aload_n 0, 1) := by decide +kernel
theorem dX8_weightAt_8 : decode cX8_weightAt 8 = .ok (.getfield 13, 3) := by decide +kernel
theorem dX8_weightAt_11 : decode cX8_weightAt 11 = .ok (.iload_n 1, 1) := by decide +kernel
theorem dX8_weightAt_12 : decode cX8_weightAt 12 = .ok (.laload, 1) := by decide +kernel
theorem dX8_weightAt_13 : decode cX8_weightAt 13 = .ok (.goto 4, 3) := by decide +kernel
theorem dX8_weightAt_16 : decode cX8_weightAt 16 = .ok (.lconst 0, 1) := by decide +kernel
theorem dX8_weightAt_17 : decode cX8_weightAt 17 = .ok (.lreturn, 1) := by decide +kernel
theorem dX8_weightOfAll_0 : decode cX8_weightOfAll 0 = .ok (.lconst 0, 1) := by decide +kernel
theorem dX8_weightOfAll_1 : decode cX8_weightOfAll 1 = .ok (.lstore_n 1, 1) := by decide +kernel
theorem dX8_weightOfAll_2 : decode cX8_weightOfAll 2 = .ok (.iconst 0, 1) := by decide +kernel
theorem dX8_weightOfAll_3 : decode cX8_weightOfAll 3 = .ok (.istore_n 3, 1) := by decide +kernel
theorem dX8_weightOfAll_4 : decode cX8_weightOfAll 4 = .ok (.iload_n 3, 1) := by decide +kernel
theorem dX8_weightOfAll_5 : decode cX8_weightOfAll 5 = .ok (.aload_n 0, 1) := by decide +kernel
theorem dX8_weightOfAll_6 : decode cX8_weightOfAll 6 = .ok (.getfield 38, 3) := by decide +kernel
theorem dX8_weightOfAll_9 : decode cX8_weightOfAll 9 = .ok (.if_icmp .ge 21, 3) := by decide +kernel
theorem dX8_weightOfAll_12 : decode cX8_weightOfAll 12 = .ok (.lload_n 1, 1) := by decide +kernel
theorem dX8_weightOfAll_13 : decode cX8_weightOfAll 13 = .ok (.aload_n 0, 1) := by decide +kernel
theorem dX8_weightOfAll_14 : decode cX8_weightOfAll 14 = .ok (.aload_n 0, 1) := by decide +kernel
theorem dX8_weightOfAll_15 : decode cX8_weightOfAll 15 = .ok (.iload_n 3, 1) := by decide +kernel
theorem dX8_weightOfAll_16 : decode cX8_weightOfAll 16 = .ok (.invokevirtual 41, 3) := by decide +kernel
theorem dX8_weightOfAll_19 : decode cX8_weightOfAll 19 = .ok (.invokevirtual 49, 3) := by decide +kernel
theorem dX8_weightOfAll_22 : decode cX8_weightOfAll 22 = .ok (.ladd, 1) := by decide +kernel
theorem dX8_weightOfAll_23 : decode cX8_weightOfAll 23 = .ok (.lstore_n 1, 1) := by decide +kernel
theorem dX8_weightOfAll_24 : decode cX8_weightOfAll 24 = .ok (.iinc 3 1, 3) := by decide +kernel
theorem dX8_weightOfAll_27 : decode cX8_weightOfAll 27 = .ok (.goto (-23), 3) := by decide +kernel
theorem dX8_weightOfAll_30 : decode cX8_weightOfAll 30 = .ok (.lload_n 1, 1) := by decide +kernel
theorem dX8_weightOfAll_31 : decode cX8_weightOfAll 31 = .ok (.lreturn, 1) := by decide +kernel
theorem dX8_isPlace_0 : decode cX8_isPlace 0 = .ok (.iload_n 0, 1) := by decide +kernel
theorem dX8_isPlace_1 : decode cX8_isPlace 1 = .ok (.ifCond .lt 14, 3) := by decide +kernel
theorem dX8_isPlace_4 : decode cX8_isPlace 4 = .ok (.iload_n 0, 1) := by decide +kernel
theorem dX8_isPlace_5 : decode cX8_isPlace 5 = .ok (.sipush 481, 3) := by decide +kernel
theorem dX8_isPlace_8 : decode cX8_isPlace 8 = .ok (.if_icmp .ge 7, 3) := by decide +kernel
theorem dX8_isPlace_11 : decode cX8_isPlace 11 = .ok (.iconst 1, 1) := by decide +kernel
theorem dX8_isPlace_12 : decode cX8_isPlace 12 = .ok (.goto 4, 3) := by decide +kernel
theorem dX8_isPlace_15 : decode cX8_isPlace 15 = .ok (.iconst 0, 1) := by decide +kernel
theorem dX8_isPlace_16 : decode cX8_isPlace 16 = .ok (.ireturn, 1) := by decide +kernel
theorem dX9_init_0 : decode cX9_init 0 = .ok (.aload_n 0, 1) := by decide +kernel
theorem dX9_init_1 : decode cX9_init 1 = .ok (.invokespecial 3, 3) := by decide +kernel
theorem dX9_init_4 : decode cX9_init 4 = .ok (.iconst 0, 1) := by decide +kernel
theorem dX9_init_5 : decode cX9_init 5 = .ok (.iload_n 2, 1) := by decide +kernel
theorem dX9_init_6 : decode cX9_init 6 = .ok (.aload_n 1, 1) := by decide +kernel
theorem dX9_init_7 : decode cX9_init 7 = .ok (.arraylength, 1) := by decide +kernel
theorem dX9_init_8 : decode cX9_init 8 = .ok (.invokestatic 9, 3) := by decide +kernel
theorem dX9_init_11 : decode cX9_init 11 = .ok (.invokestatic 15, 3) := by decide +kernel
theorem dX9_init_14 : decode cX9_init 14 = .ok (.istore_n 3, 1) := by decide +kernel
theorem dX9_init_15 : decode cX9_init 15 = .ok (.aload_n 0, 1) := by decide +kernel
theorem dX9_init_16 : decode cX9_init 16 = .ok (.iload_n 3, 1) := by decide +kernel
theorem dX9_init_17 : decode cX9_init 17 = .ok (.newarray .byte, 2) := by decide +kernel
theorem dX9_init_19 : decode cX9_init 19 = .ok (.putfield 18, 3) := by decide +kernel
theorem dX9_init_22 : decode cX9_init 22 = .ok (.aload_n 1, 1) := by decide +kernel
theorem dX9_init_23 : decode cX9_init 23 = .ok (.iconst 0, 1) := by decide +kernel
theorem dX9_init_24 : decode cX9_init 24 = .ok (.aload_n 0, 1) := by decide +kernel
theorem dX9_init_25 : decode cX9_init 25 = .ok (.getfield 18, 3) := by decide +kernel
theorem dX9_init_28 : decode cX9_init 28 = .ok (.iconst 0, 1) := by decide +kernel
theorem dX9_init_29 : decode cX9_init 29 = .ok (.iload_n 3, 1) := by decide +kernel
theorem dX9_init_30 : decode cX9_init 30 = .ok (.invokestatic 24, 3) := by decide +kernel
theorem dX9_init_33 : decode cX9_init 33 = .ok (.return_, 1) := by decide +kernel
theorem dX9_kindNumber_0 : decode cX9_kindNumber 0 = .ok (.iconst 0, 1) := by decide +kernel
theorem dX9_kindNumber_1 : decode cX9_kindNumber 1 = .ok (.ireturn, 1) := by decide +kernel
theorem dX9_wants_0 : decode cX9_wants 0 = .ok (.iload_n 1, 1) := by decide +kernel
theorem dX9_wants_1 : decode cX9_wants 1 = .ok (.bipush (-12), 2) := by decide +kernel
theorem dX9_wants_3 : decode cX9_wants 3 = .ok (.isub, 1) := by decide +kernel
theorem dX9_wants_4 : decode cX9_wants 4 = .ok (.istore_n 2, 1) := by decide +kernel
theorem dX9_wants_5 : decode cX9_wants 5 = .ok (.iload_n 2, 1) := by decide +kernel
theorem dX9_wants_6 : decode cX9_wants 6 = .ok (.iconst 0, 1) := by decide +kernel
theorem dX9_wants_7 : decode cX9_wants 7 = .ok (.aload_n 0, 1) := by decide +kernel
theorem dX9_wants_8 : decode cX9_wants 8 = .ok (.getfield 18, 3) := by decide +kernel
theorem dX9_wants_11 : decode cX9_wants 11 = .ok (.arraylength, 1) := by decide +kernel
theorem dX9_wants_12 : decode cX9_wants 12 = .ok (.iconst 1, 1) := by decide +kernel
theorem dX9_wants_13 : decode cX9_wants 13 = .ok (.isub, 1) := by decide +kernel
theorem dX9_wants_14 : decode cX9_wants 14 = .ok (.invokestatic 30, 3) := by decide +kernel
theorem dX9_wants_17 : decode cX9_wants 17 = .ok (.ifCond .eq 12, 3) := by decide +kernel
theorem dX9_wants_20 : decode cX9_wants 20 = .ok (.aload_n 0, 1) := by decide +kernel
theorem dX9_wants_21 : decode cX9_wants 21 = .ok (.getfield 18, 3) := by decide +kernel
theorem dX9_wants_24 : decode cX9_wants 24 = .ok (.iload_n 2, 1) := by decide +kernel
theorem dX9_wants_25 : decode cX9_wants 25 = .ok (.baload, 1) := by decide +kernel
theorem dX9_wants_26 : decode cX9_wants 26 = .ok (.goto 4, 3) := by decide +kernel
theorem dX9_wants_29 : decode cX9_wants 29 = .ok (.iconst 0, 1) := by decide +kernel
theorem dX9_wants_30 : decode cX9_wants 30 = .ok (.ireturn, 1) := by decide +kernel
theorem dX9_tableSize_0 : decode cX9_tableSize 0 = .ok (.aload_n 0, 1) := by decide +kernel
theorem dX9_tableSize_1 : decode cX9_tableSize 1 = .ok (.getfield 18, 3) := by decide +kernel
theorem dX9_tableSize_4 : decode cX9_tableSize 4 = .ok (.arraylength, 1) := by decide +kernel
theorem dX9_tableSize_5 : decode cX9_tableSize 5 = .ok (.ireturn, 1) := by decide +kernel
theorem dX10_init_0 : decode cX10_init 0 = .ok (.aload_n 0, 1) := by decide +kernel
theorem dX10_init_1 : decode cX10_init 1 = .ok (.invokespecial 3, 3) := by decide +kernel
theorem dX10_init_4 : decode cX10_init 4 = .ok (.aload_n 0, 1) := by decide +kernel
theorem dX10_init_5 : decode cX10_init 5 = .ok (.bipush 49, 2) := by decide +kernel
theorem dX10_init_7 : decode cX10_init 7 = .ok (.newarray .int, 2) := by decide +kernel
theorem dX10_init_9 : decode cX10_init 9 = .ok (.putfield 9, 3) := by decide +kernel
theorem dX10_init_12 : decode cX10_init 12 = .ok (.aload_n 0, 1) := by decide +kernel
theorem dX10_init_13 : decode cX10_init 13 = .ok (.bipush 49, 2) := by decide +kernel
theorem dX10_init_15 : decode cX10_init 15 = .ok (.newarray .boolean, 2) := by decide +kernel
theorem dX10_init_17 : decode cX10_init 17 = .ok (.putfield 15, 3) := by decide +kernel
theorem dX10_init_20 : decode cX10_init 20 = .ok (.aload_n 0, 1) := by decide +kernel
theorem dX10_init_21 : decode cX10_init 21 = .ok (.aload_n 1, 1) := by decide +kernel
theorem dX10_init_22 : decode cX10_init 22 = .ok (.putfield 19, 3) := by decide +kernel
theorem dX10_init_25 : decode cX10_init 25 = .ok (.aload_n 0, 1) := by decide +kernel
theorem dX10_init_26 : decode cX10_init 26 = .ok (.aload_n 2, 1) := by decide +kernel
theorem dX10_init_27 : decode cX10_init 27 = .ok (.putfield 23, 3) := by decide +kernel
theorem dX10_init_30 : decode cX10_init 30 = .ok (.return_, 1) := by decide +kernel
theorem dX10_useRule_0 : decode cX10_useRule 0 = .ok (.iconst 0, 1) := by decide +kernel
theorem dX10_useRule_1 : decode cX10_useRule 1 = .ok (.istore_n 2, 1) := by decide +kernel
theorem dX10_useRule_2 : decode cX10_useRule 2 = .ok (.iload_n 2, 1) := by decide +kernel
theorem dX10_useRule_3 : decode cX10_useRule 3 = .ok (.aload_n 0, 1) := by decide +kernel
theorem dX10_useRule_4 : decode cX10_useRule 4 = .ok (.getfield 9, 3) := by decide +kernel
theorem dX10_useRule_7 : decode cX10_useRule 7 = .ok (.arraylength, 1) := by decide +kernel
theorem dX10_useRule_8 : decode cX10_useRule 8 = .ok (.if_icmp .ge 26, 3) := by decide +kernel
theorem dX10_useRule_11 : decode cX10_useRule 11 = .ok (.aload_n 0, 1) := by decide +kernel
theorem dX10_useRule_12 : decode cX10_useRule 12 = .ok (.getfield 9, 3) := by decide +kernel
theorem dX10_useRule_15 : decode cX10_useRule 15 = .ok (.iload_n 2, 1) := by decide +kernel
theorem dX10_useRule_16 : decode cX10_useRule 16 = .ok (.aload_n 1, 1) := by decide +kernel
theorem dX10_useRule_17 : decode cX10_useRule 17 = .ok (.iload_n 2, 1) := by decide +kernel
theorem dX10_useRule_18 : decode cX10_useRule 18 = .ok (.bipush (-12), 2) := by decide +kernel
theorem dX10_useRule_20 : decode cX10_useRule 20 = .ok (.iadd, 1) := by decide +kernel
theorem dX10_useRule_21 : decode cX10_useRule 21 = .ok (.invokevirtual 27, 3) := by decide +kernel
theorem dX10_useRule_24 : decode cX10_useRule 24 = .ok (.invokestatic 33, 3) := by decide +kernel
theorem dX10_useRule_27 : decode cX10_useRule 27 = .ok (.iastore, 1) := by decide +kernel
theorem dX10_useRule_28 : decode cX10_useRule 28 = .ok (.iinc 2 1, 3) := by decide +kernel
theorem dX10_useRule_31 : decode cX10_useRule 31 = .ok (.goto (-29), 3) := by decide +kernel
theorem dX10_useRule_34 : decode cX10_useRule 34 = .ok (.return_, 1) := by decide +kernel
theorem dX10_usePair_0 : decode cX10_usePair 0 = .ok (.iconst 0, 1) := by decide +kernel
theorem dX10_usePair_1 : decode cX10_usePair 1 = .ok (.istore_n 3, 1) := by decide +kernel
theorem dX10_usePair_2 : decode cX10_usePair 2 = .ok (.iload_n 3, 1) := by decide +kernel
theorem dX10_usePair_3 : decode cX10_usePair 3 = .ok (.aload_n 0, 1) := by decide +kernel
theorem dX10_usePair_4 : decode cX10_usePair 4 = .ok (.getfield 9, 3) := by decide +kernel
theorem dX10_usePair_7 : decode cX10_usePair 7 = .ok (.arraylength, 1) := by decide +kernel
theorem dX10_usePair_8 : decode cX10_usePair 8 = .ok (.if_icmp .ge 27, 3) := by decide +kernel
theorem dX10_usePair_11 : decode cX10_usePair 11 = .ok (.aload_n 0, 1) := by decide +kernel
theorem dX10_usePair_12 : decode cX10_usePair 12 = .ok (.getfield 9, 3) := by decide +kernel
theorem dX10_usePair_15 : decode cX10_usePair 15 = .ok (.iload_n 3, 1) := by decide +kernel
theorem dX10_usePair_16 : decode cX10_usePair 16 = .ok (.iload_n 1, 1) := by decide +kernel
theorem dX10_usePair_17 : decode cX10_usePair 17 = .ok (.iload_n 2, 1) := by decide +kernel
theorem dX10_usePair_18 : decode cX10_usePair 18 = .ok (.iload_n 3, 1) := by decide +kernel
theorem dX10_usePair_19 : decode cX10_usePair 19 = .ok (.bipush (-12), 2) := by decide +kernel
theorem dX10_usePair_21 : decode cX10_usePair 21 = .ok (.iadd, 1) := by decide +kernel
theorem dX10_usePair_22 : decode cX10_usePair 22 = .ok (.invokestatic 36, 3) := by decide +kernel
theorem dX10_usePair_25 : decode cX10_usePair 25 = .ok (.invokestatic 33, 3) := by decide +kernel
theorem dX10_usePair_28 : decode cX10_usePair 28 = .ok (.iastore, 1) := by decide +kernel
theorem dX10_usePair_29 : decode cX10_usePair 29 = .ok (.iinc 3 1, 3) := by decide +kernel
theorem dX10_usePair_32 : decode cX10_usePair 32 = .ok (.goto (-30), 3) := by decide +kernel
theorem dX10_usePair_35 : decode cX10_usePair 35 = .ok (.return_, 1) := by decide +kernel
theorem dX10_hasReached_0 : decode cX10_hasReached 0 = .ok (.iload_n 1, 1) := by decide +kernel
theorem dX10_hasReached_1 : decode cX10_hasReached 1 = .ok (.invokestatic 42, 3) := by decide +kernel
theorem dX10_hasReached_4 : decode cX10_hasReached 4 = .ok (.ifCond .eq 19, 3) := by decide +kernel
theorem dX10_hasReached_7 : decode cX10_hasReached 7 = .ok (.aload_n 0, 1) := by decide +kernel
theorem dX10_hasReached_8 : decode cX10_hasReached 8 = .ok (.getfield 15, 3) := by decide +kernel
theorem dX10_hasReached_11 : decode cX10_hasReached 11 = .ok (.iload_n 1, 1) := by decide +kernel
theorem dX10_hasReached_12 : decode cX10_hasReached 12 = .ok (.bipush (-12), 2) := by decide +kernel
theorem dX10_hasReached_14 : decode cX10_hasReached 14 = .ok (.isub, 1) := by decide +kernel
theorem dX10_hasReached_15 : decode cX10_hasReached 15 = .ok (.baload, 1) := by decide +kernel
theorem dX10_hasReached_16 : decode cX10_hasReached 16 = .ok (.ifCond .eq 7, 3) := by decide +kernel
theorem dX10_hasReached_19 : decode cX10_hasReached 19 = .ok (.iconst 1, 1) := by decide +kernel
theorem dX10_hasReached_20 : decode cX10_hasReached 20 = .ok (.goto 4, 3) := by decide +kernel
theorem dX10_hasReached_23 : decode cX10_hasReached 23 = .ok (.iconst 0, 1) := by decide +kernel
theorem dX10_hasReached_24 : decode cX10_hasReached 24 = .ok (.ireturn, 1) := by decide +kernel
theorem dX10_follow_0 : decode cX10_follow 0 = .ok (.aload_n 0, 1) := by decide +kernel
theorem dX10_follow_1 : decode cX10_follow 1 = .ok (.iconst 0, 1) := by decide +kernel
theorem dX10_follow_2 : decode cX10_follow 2 = .ok (.putfield 46, 3) := by decide +kernel
theorem dX10_follow_5 : decode cX10_follow 5 = .ok (.aload_n 0, 1) := by decide +kernel
theorem dX10_follow_6 : decode cX10_follow 6 = .ok (.iload_n 2, 1) := by decide +kernel
theorem dX10_follow_7 : decode cX10_follow 7 = .ok (.invokevirtual 50, 3) := by decide +kernel
theorem dX10_follow_10 : decode cX10_follow 10 = .ok (.iconst 1, 1) := by decide +kernel
theorem dX10_follow_11 : decode cX10_follow 11 = .ok (.istore 6, 2) := by decide +kernel
theorem dX10_follow_13 : decode cX10_follow 13 = .ok (.iload 6, 2) := by decide +kernel
theorem dX10_follow_15 : decode cX10_follow 15 = .ok (.iload_n 3, 1) := by decide +kernel
theorem dX10_follow_16 : decode cX10_follow 16 = .ok (.if_icmp .gt 40, 3) := by decide +kernel
theorem dX10_follow_19 : decode cX10_follow 19 = .ok (.aload_n 0, 1) := by decide +kernel
theorem dX10_follow_20 : decode cX10_follow 20 = .ok (.aload_n 1, 1) := by decide +kernel
theorem dX10_follow_21 : decode cX10_follow 21 = .ok (.invokevirtual 54, 3) := by decide +kernel
theorem dX10_follow_24 : decode cX10_follow 24 = .ok (.aload_n 0, 1) := by decide +kernel
theorem dX10_follow_25 : decode cX10_follow 25 = .ok (.getfield 58, 3) := by decide +kernel
theorem dX10_follow_28 : decode cX10_follow 28 = .ok (.aload_n 1, 1) := by decide +kernel
theorem dX10_follow_29 : decode cX10_follow 29 = .ok (.iload_n 3, 1) := by decide +kernel
theorem dX10_follow_30 : decode cX10_follow 30 = .ok (.iload 6, 2) := by decide +kernel
theorem dX10_follow_32 : decode cX10_follow 32 = .ok (.isub, 1) := by decide +kernel
theorem dX10_follow_33 : decode cX10_follow 33 = .ok (.invokestatic 62, 3) := by decide +kernel
theorem dX10_follow_36 : decode cX10_follow 36 = .ok (.lmul, 1) := by decide +kernel
theorem dX10_follow_37 : decode cX10_follow 37 = .ok (.lstore 7, 2) := by decide +kernel
theorem dX10_follow_39 : decode cX10_follow 39 = .ok (.lload 7, 2) := by decide +kernel
theorem dX10_follow_41 : decode cX10_follow 41 = .ok (.lload 4, 2) := by decide +kernel
theorem dX10_follow_43 : decode cX10_follow 43 = .ok (.lcmp, 1) := by decide +kernel
theorem dX10_follow_44 : decode cX10_follow 44 = .ok (.ifCond .lt 6, 3) := by decide +kernel
theorem dX10_follow_47 : decode cX10_follow 47 = .ok (.lload 7, 2) := by decide +kernel
theorem dX10_follow_49 : decode cX10_follow 49 = .ok (.lreturn, 1) := by decide +kernel
theorem dX10_follow_50 : decode cX10_follow 50 = .ok (.iinc 6 1, 3) := by decide +kernel
theorem dX10_follow_53 : decode cX10_follow 53 = .ok (.goto (-40), 3) := by decide +kernel
theorem dX10_follow_56 : decode cX10_follow 56 = .ok (.aload_n 0, 1) := by decide +kernel
theorem dX10_follow_57 : decode cX10_follow 57 = .ok (.getfield 58, 3) := by decide +kernel
theorem dX10_follow_60 : decode cX10_follow 60 = .ok (.lreturn, 1) := by decide +kernel
theorem dX10_followUnbroken_0 : decode cX10_followUnbroken 0 = .ok (.aload_n 0, 1) := by decide +kernel
theorem dX10_followUnbroken_1 : decode cX10_followUnbroken 1 = .ok (.iconst 1, 1) := by decide +kernel
theorem dX10_followUnbroken_2 : decode cX10_followUnbroken 2 = .ok (.putfield 46, 3) := by decide +kernel
theorem dX10_followUnbroken_5 : decode cX10_followUnbroken 5 = .ok (.aload_n 0, 1) := by decide +kernel
theorem dX10_followUnbroken_6 : decode cX10_followUnbroken 6 = .ok (.iload_n 2, 1) := by decide +kernel
theorem dX10_followUnbroken_7 : decode cX10_followUnbroken 7 = .ok (.invokevirtual 50, 3) := by decide +kernel
theorem dX10_followUnbroken_10 : decode cX10_followUnbroken 10 = .ok (.iconst 1, 1) := by decide +kernel
theorem dX10_followUnbroken_11 : decode cX10_followUnbroken 11 = .ok (.istore 4, 2) := by decide +kernel
theorem dX10_followUnbroken_13 : decode cX10_followUnbroken 13 = .ok (.iload 4, 2) := by decide +kernel
theorem dX10_followUnbroken_15 : decode cX10_followUnbroken 15 = .ok (.iload_n 3, 1) := by decide +kernel
theorem dX10_followUnbroken_16 : decode cX10_followUnbroken 16 = .ok (.if_icmp .gt 14, 3) := by decide +kernel
theorem dX10_followUnbroken_19 : decode cX10_followUnbroken 19 = .ok (.aload_n 0, 1) := by decide +kernel
theorem dX10_followUnbroken_20 : decode cX10_followUnbroken 20 = .ok (.aload_n 1, 1) := by decide +kernel
theorem dX10_followUnbroken_21 : decode cX10_followUnbroken 21 = .ok (.invokevirtual 54, 3) := by decide +kernel
theorem dX10_followUnbroken_24 : decode cX10_followUnbroken 24 = .ok (.iinc 4 1, 3) := by decide +kernel
theorem dX10_followUnbroken_27 : decode cX10_followUnbroken 27 = .ok (.goto (-14), 3) := by decide +kernel
theorem dX10_followUnbroken_30 : decode cX10_followUnbroken 30 = .ok (.aload_n 0, 1) := by decide +kernel
theorem dX10_followUnbroken_31 : decode cX10_followUnbroken 31 = .ok (.getfield 23, 3) := by decide +kernel
theorem dX10_followUnbroken_34 : decode cX10_followUnbroken 34 = .ok (.invokevirtual 66, 3) := by decide +kernel
theorem dX10_followUnbroken_37 : decode cX10_followUnbroken 37 = .ok (.lreturn, 1) := by decide +kernel
theorem dX10_begin_0 : decode cX10_begin 0 = .ok (.aload_n 0, 1) := by decide +kernel
theorem dX10_begin_1 : decode cX10_begin 1 = .ok (.lconst 0, 1) := by decide +kernel
theorem dX10_begin_2 : decode cX10_begin 2 = .ok (.putfield 58, 3) := by decide +kernel
theorem dX10_begin_5 : decode cX10_begin 5 = .ok (.aload_n 0, 1) := by decide +kernel
theorem dX10_begin_6 : decode cX10_begin 6 = .ok (.lconst 0, 1) := by decide +kernel
theorem dX10_begin_7 : decode cX10_begin 7 = .ok (.putfield 72, 3) := by decide +kernel
theorem dX10_begin_10 : decode cX10_begin 10 = .ok (.aload_n 0, 1) := by decide +kernel
theorem dX10_begin_11 : decode cX10_begin 11 = .ok (.lconst 0, 1) := by decide +kernel
theorem dX10_begin_12 : decode cX10_begin 12 = .ok (.putfield 75, 3) := by decide +kernel
theorem dX10_begin_15 : decode cX10_begin 15 = .ok (.iconst 0, 1) := by decide +kernel
theorem dX10_begin_16 : decode cX10_begin 16 = .ok (.istore_n 2, 1) := by decide +kernel
theorem dX10_begin_17 : decode cX10_begin 17 = .ok (.iload_n 2, 1) := by decide +kernel
theorem dX10_begin_18 : decode cX10_begin 18 = .ok (.aload_n 0, 1) := by decide +kernel
theorem dX10_begin_19 : decode cX10_begin 19 = .ok (.getfield 15, 3) := by decide +kernel
theorem dX10_begin_22 : decode cX10_begin 22 = .ok (.arraylength, 1) := by decide +kernel
theorem dX10_begin_23 : decode cX10_begin 23 = .ok (.if_icmp .ge 16, 3) := by decide +kernel
theorem dX10_begin_26 : decode cX10_begin 26 = .ok (.aload_n 0, 1) := by decide +kernel
theorem dX10_begin_27 : decode cX10_begin 27 = .ok (.getfield 15, 3) := by decide +kernel
theorem dX10_begin_30 : decode cX10_begin 30 = .ok (.iload_n 2, 1) := by decide +kernel
theorem dX10_begin_31 : decode cX10_begin 31 = .ok (.iconst 0, 1) := by decide +kernel
theorem dX10_begin_32 : decode cX10_begin 32 = .ok (.bastore, 1) := by decide +kernel
theorem dX10_begin_33 : decode cX10_begin 33 = .ok (.iinc 2 1, 3) := by decide +kernel
theorem dX10_begin_36 : decode cX10_begin 36 = .ok (.goto (-19), 3) := by decide +kernel
theorem dX10_begin_39 : decode cX10_begin 39 = .ok (.aload_n 0, 1) := by decide +kernel
theorem dX10_begin_40 : decode cX10_begin 40 = .ok (.getfield 23, 3) := by decide +kernel
theorem dX10_begin_43 : decode cX10_begin 43 = .ok (.iload_n 1, 1) := by decide +kernel
theorem dX10_begin_44 : decode cX10_begin 44 = .ok (.iconst 0, 1) := by decide +kernel
theorem dX10_begin_45 : decode cX10_begin 45 = .ok (.invokestatic 78, 3) := by decide +kernel
theorem dX10_begin_48 : decode cX10_begin 48 = .ok (.invokevirtual 82, 3) := by decide +kernel
theorem dX10_begin_51 : decode cX10_begin 51 = .ok (.return_, 1) := by decide +kernel
theorem dX10_passDay_0 : decode cX10_passDay 0 = .ok (.aload_n 1, 1) := by decide +kernel
theorem dX10_passDay_1 : decode cX10_passDay 1 = .ok (.invokevirtual 85, 3) := by decide +kernel
theorem dX10_passDay_4 : decode cX10_passDay 4 = .ok (.istore_n 2, 1) := by decide +kernel
theorem dX10_passDay_5 : decode cX10_passDay 5 = .ok (.aload_n 0, 1) := by decide +kernel
theorem dX10_passDay_6 : decode cX10_passDay 6 = .ok (.dup, 1) := by decide +kernel
theorem dX10_passDay_7 : decode cX10_passDay 7 = .ok (.getfield 58, 3) := by decide +kernel
theorem dX10_passDay_10 : decode cX10_passDay 10 = .ok (.iload_n 2, 1) := by decide +kernel
theorem dX10_passDay_11 : decode cX10_passDay 11 = .ok (.i2l, 1) := by decide +kernel
theorem dX10_passDay_12 : decode cX10_passDay 12 = .ok (.lmul, 1) := by decide +kernel
theorem dX10_passDay_13 : decode cX10_passDay 13 = .ok (.putfield 58, 3) := by decide +kernel
theorem dX10_passDay_16 : decode cX10_passDay 16 = .ok (.aload_n 0, 1) := by decide +kernel
theorem dX10_passDay_17 : decode cX10_passDay 17 = .ok (.dup, 1) := by decide +kernel
theorem dX10_passDay_18 : decode cX10_passDay 18 = .ok (.getfield 72, 3) := by decide +kernel
theorem dX10_passDay_21 : decode cX10_passDay 21 = .ok (.iload_n 2, 1) := by decide +kernel
theorem dX10_passDay_22 : decode cX10_passDay 22 = .ok (.i2l, 1) := by decide +kernel
theorem dX10_passDay_23 : decode cX10_passDay 23 = .ok (.lmul, 1) := by decide +kernel
theorem dX10_passDay_24 : decode cX10_passDay 24 = .ok (.putfield 72, 3) := by decide +kernel
theorem dX10_passDay_27 : decode cX10_passDay 27 = .ok (.aload_n 0, 1) := by decide +kernel
theorem dX10_passDay_28 : decode cX10_passDay 28 = .ok (.dup, 1) := by decide +kernel
theorem dX10_passDay_29 : decode cX10_passDay 29 = .ok (.getfield 75, 3) := by decide +kernel
theorem dX10_passDay_32 : decode cX10_passDay 32 = .ok (.iload_n 2, 1) := by decide +kernel
theorem dX10_passDay_33 : decode cX10_passDay 33 = .ok (.i2l, 1) := by decide +kernel
theorem dX10_passDay_34 : decode cX10_passDay 34 = .ok (.lmul, 1) := by decide +kernel
theorem dX10_passDay_35 : decode cX10_passDay 35 = .ok (.putfield 75, 3) := by decide +kernel
theorem dX10_passDay_38 : decode cX10_passDay 38 = .ok (.iconst 0, 1) := by decide +kernel
theorem dX10_passDay_39 : decode cX10_passDay 39 = .ok (.istore_n 3, 1) := by decide +kernel
theorem dX10_passDay_40 : decode cX10_passDay 40 = .ok (.iload_n 3, 1) := by decide +kernel
theorem dX10_passDay_41 : decode cX10_passDay 41 = .ok (.aload_n 0, 1) := by decide +kernel
theorem dX10_passDay_42 : decode cX10_passDay 42 = .ok (.getfield 23, 3) := by decide +kernel
theorem dX10_passDay_45 : decode cX10_passDay 45 = .ok (.invokevirtual 90, 3) := by decide +kernel
theorem dX10_passDay_48 : decode cX10_passDay 48 = .ok (.if_icmp .ge 23, 3) := by decide +kernel
theorem dX10_passDay_51 : decode cX10_passDay 51 = .ok (.aload_n 0, 1) := by decide +kernel
theorem dX10_passDay_52 : decode cX10_passDay 52 = .ok (.aload_n 0, 1) := by decide +kernel
theorem dX10_passDay_53 : decode cX10_passDay 53 = .ok (.getfield 23, 3) := by decide +kernel
theorem dX10_passDay_56 : decode cX10_passDay 56 = .ok (.iload_n 3, 1) := by decide +kernel
theorem dX10_passDay_57 : decode cX10_passDay 57 = .ok (.invokevirtual 93, 3) := by decide +kernel
theorem dX10_passDay_60 : decode cX10_passDay 60 = .ok (.aload_n 1, 1) := by decide +kernel
theorem dX10_passDay_61 : decode cX10_passDay 61 = .ok (.iload_n 2, 1) := by decide +kernel
theorem dX10_passDay_62 : decode cX10_passDay 62 = .ok (.invokevirtual 96, 3) := by decide +kernel
theorem dX10_passDay_65 : decode cX10_passDay 65 = .ok (.iinc 3 1, 3) := by decide +kernel
theorem dX10_passDay_68 : decode cX10_passDay 68 = .ok (.goto (-28), 3) := by decide +kernel
theorem dX10_passDay_71 : decode cX10_passDay 71 = .ok (.aload_n 0, 1) := by decide +kernel
theorem dX10_passDay_72 : decode cX10_passDay 72 = .ok (.getfield 23, 3) := by decide +kernel
theorem dX10_passDay_75 : decode cX10_passDay 75 = .ok (.invokevirtual 100, 3) := by decide +kernel
theorem dX10_passDay_78 : decode cX10_passDay 78 = .ok (.return_, 1) := by decide +kernel
theorem dX10_passFrom_0 : decode cX10_passFrom 0 = .ok (.iload_n 1, 1) := by decide +kernel
theorem dX10_passFrom_1 : decode cX10_passFrom 1 = .ok (.bipush 37, 2) := by decide +kernel
theorem dX10_passFrom_3 : decode cX10_passFrom 3 = .ok (.irem, 1) := by decide +kernel
theorem dX10_passFrom_4 : decode cX10_passFrom 4 = .ok (.bipush (-12), 2) := by decide +kernel
theorem dX10_passFrom_6 : decode cX10_passFrom 6 = .ok (.iadd, 1) := by decide +kernel
theorem dX10_passFrom_7 : decode cX10_passFrom 7 = .ok (.istore 4, 2) := by decide +kernel
theorem dX10_passFrom_9 : decode cX10_passFrom 9 = .ok (.iload_n 1, 1) := by decide +kernel
theorem dX10_passFrom_10 : decode cX10_passFrom 10 = .ok (.bipush 37, 2) := by decide +kernel
theorem dX10_passFrom_12 : decode cX10_passFrom 12 = .ok (.idiv, 1) := by decide +kernel
theorem dX10_passFrom_13 : decode cX10_passFrom 13 = .ok (.istore 5, 2) := by decide +kernel
theorem dX10_passFrom_15 : decode cX10_passFrom 15 = .ok (.aload_n 0, 1) := by decide +kernel
theorem dX10_passFrom_16 : decode cX10_passFrom 16 = .ok (.iload 4, 2) := by decide +kernel
theorem dX10_passFrom_18 : decode cX10_passFrom 18 = .ok (.iload 5, 2) := by decide +kernel
theorem dX10_passFrom_20 : decode cX10_passFrom 20 = .ok (.iadd, 1) := by decide +kernel
theorem dX10_passFrom_21 : decode cX10_passFrom 21 = .ok (.invokevirtual 103, 3) := by decide +kernel
theorem dX10_passFrom_24 : decode cX10_passFrom 24 = .ok (.istore 6, 2) := by decide +kernel
theorem dX10_passFrom_26 : decode cX10_passFrom 26 = .ok (.aload_n 0, 1) := by decide +kernel
theorem dX10_passFrom_27 : decode cX10_passFrom 27 = .ok (.getfield 19, 3) := by decide +kernel
theorem dX10_passFrom_30 : decode cX10_passFrom 30 = .ok (.iload 4, 2) := by decide +kernel
theorem dX10_passFrom_32 : decode cX10_passFrom 32 = .ok (.aload_n 0, 1) := by decide +kernel
theorem dX10_passFrom_33 : decode cX10_passFrom 33 = .ok (.getfield 19, 3) := by decide +kernel
theorem dX10_passFrom_36 : decode cX10_passFrom 36 = .ok (.getfield 106, 3) := by decide +kernel
theorem dX10_passFrom_39 : decode cX10_passFrom 39 = .ok (.ifCond .ne 8, 3) := by decide +kernel
theorem dX10_passFrom_42 : decode cX10_passFrom 42 = .ok (.iload 6, 2) := by decide +kernel
theorem dX10_passFrom_44 : decode cX10_passFrom 44 = .ok (.goto 4, 3) := by decide +kernel
theorem dX10_passFrom_47 : decode cX10_passFrom 47 = .ok (.iconst 0, 1) := by decide +kernel
theorem dX10_passFrom_48 : decode cX10_passFrom 48 = .ok (.invokevirtual 112, 3) := by decide +kernel
theorem dX10_passFrom_51 : decode cX10_passFrom 51 = .ok (.istore 7, 2) := by decide +kernel
theorem dX10_passFrom_53 : decode cX10_passFrom 53 = .ok (.aload_n 0, 1) := by decide +kernel
theorem dX10_passFrom_54 : decode cX10_passFrom 54 = .ok (.getfield 23, 3) := by decide +kernel
theorem dX10_passFrom_57 : decode cX10_passFrom 57 = .ok (.iload_n 1, 1) := by decide +kernel
theorem dX10_passFrom_58 : decode cX10_passFrom 58 = .ok (.invokevirtual 115, 3) := by decide +kernel
theorem dX10_passFrom_61 : decode cX10_passFrom 61 = .ok (.lstore 8, 2) := by decide +kernel
theorem dX10_passFrom_63 : decode cX10_passFrom 63 = .ok (.aload_n 0, 1) := by decide +kernel
theorem dX10_passFrom_64 : decode cX10_passFrom 64 = .ok (.dup, 1) := by decide +kernel
theorem dX10_passFrom_65 : decode cX10_passFrom 65 = .ok (.getfield 58, 3) := by decide +kernel
theorem dX10_passFrom_68 : decode cX10_passFrom 68 = .ok (.lload 8, 2) := by decide +kernel
theorem dX10_passFrom_70 : decode cX10_passFrom 70 = .ok (.iload_n 3, 1) := by decide +kernel
theorem dX10_passFrom_71 : decode cX10_passFrom 71 = .ok (.aload_n 0, 1) := by decide +kernel
theorem dX10_passFrom_72 : decode cX10_passFrom 72 = .ok (.getfield 19, 3) := by decide +kernel
theorem dX10_passFrom_75 : decode cX10_passFrom 75 = .ok (.iload 6, 2) := by decide +kernel
theorem dX10_passFrom_77 : decode cX10_passFrom 77 = .ok (.invokevirtual 119, 3) := by decide +kernel
theorem dX10_passFrom_80 : decode cX10_passFrom 80 = .ok (.imul, 1) := by decide +kernel
theorem dX10_passFrom_81 : decode cX10_passFrom 81 = .ok (.aload_n 0, 1) := by decide +kernel
theorem dX10_passFrom_82 : decode cX10_passFrom 82 = .ok (.getfield 19, 3) := by decide +kernel
theorem dX10_passFrom_85 : decode cX10_passFrom 85 = .ok (.iload 7, 2) := by decide +kernel
theorem dX10_passFrom_87 : decode cX10_passFrom 87 = .ok (.invokevirtual 122, 3) := by decide +kernel
theorem dX10_passFrom_90 : decode cX10_passFrom 90 = .ok (.iadd, 1) := by decide +kernel
theorem dX10_passFrom_91 : decode cX10_passFrom 91 = .ok (.i2l, 1) := by decide +kernel
theorem dX10_passFrom_92 : decode cX10_passFrom 92 = .ok (.lmul, 1) := by decide +kernel
theorem dX10_passFrom_93 : decode cX10_passFrom 93 = .ok (.ladd, 1) := by decide +kernel
theorem dX10_passFrom_94 : decode cX10_passFrom 94 = .ok (.putfield 58, 3) := by decide +kernel
theorem dX10_passFrom_97 : decode cX10_passFrom 97 = .ok (.aload_n 0, 1) := by decide +kernel
theorem dX10_passFrom_98 : decode cX10_passFrom 98 = .ok (.dup, 1) := by decide +kernel
theorem dX10_passFrom_99 : decode cX10_passFrom 99 = .ok (.getfield 72, 3) := by decide +kernel
theorem dX10_passFrom_102 : decode cX10_passFrom 102 = .ok (.lload 8, 2) := by decide +kernel
theorem dX10_passFrom_104 : decode cX10_passFrom 104 = .ok (.aload_n 0, 1) := by decide +kernel
theorem dX10_passFrom_105 : decode cX10_passFrom 105 = .ok (.getfield 19, 3) := by decide +kernel
theorem dX10_passFrom_108 : decode cX10_passFrom 108 = .ok (.iload 7, 2) := by decide +kernel
theorem dX10_passFrom_110 : decode cX10_passFrom 110 = .ok (.invokevirtual 125, 3) := by decide +kernel
theorem dX10_passFrom_113 : decode cX10_passFrom 113 = .ok (.i2l, 1) := by decide +kernel
theorem dX10_passFrom_114 : decode cX10_passFrom 114 = .ok (.lmul, 1) := by decide +kernel
theorem dX10_passFrom_115 : decode cX10_passFrom 115 = .ok (.ladd, 1) := by decide +kernel
theorem dX10_passFrom_116 : decode cX10_passFrom 116 = .ok (.putfield 72, 3) := by decide +kernel
theorem dX10_passFrom_119 : decode cX10_passFrom 119 = .ok (.aload_n 0, 1) := by decide +kernel
theorem dX10_passFrom_120 : decode cX10_passFrom 120 = .ok (.dup, 1) := by decide +kernel
theorem dX10_passFrom_121 : decode cX10_passFrom 121 = .ok (.getfield 75, 3) := by decide +kernel
theorem dX10_passFrom_124 : decode cX10_passFrom 124 = .ok (.lload 8, 2) := by decide +kernel
theorem dX10_passFrom_126 : decode cX10_passFrom 126 = .ok (.aload_n 0, 1) := by decide +kernel
theorem dX10_passFrom_127 : decode cX10_passFrom 127 = .ok (.getfield 19, 3) := by decide +kernel
theorem dX10_passFrom_130 : decode cX10_passFrom 130 = .ok (.iload 7, 2) := by decide +kernel
theorem dX10_passFrom_132 : decode cX10_passFrom 132 = .ok (.invokevirtual 128, 3) := by decide +kernel
theorem dX10_passFrom_135 : decode cX10_passFrom 135 = .ok (.i2l, 1) := by decide +kernel
theorem dX10_passFrom_136 : decode cX10_passFrom 136 = .ok (.lmul, 1) := by decide +kernel
theorem dX10_passFrom_137 : decode cX10_passFrom 137 = .ok (.ladd, 1) := by decide +kernel
theorem dX10_passFrom_138 : decode cX10_passFrom 138 = .ok (.putfield 75, 3) := by decide +kernel
theorem dX10_passFrom_141 : decode cX10_passFrom 141 = .ok (.aload_n 0, 1) := by decide +kernel
theorem dX10_passFrom_142 : decode cX10_passFrom 142 = .ok (.getfield 19, 3) := by decide +kernel
theorem dX10_passFrom_145 : decode cX10_passFrom 145 = .ok (.getfield 106, 3) := by decide +kernel
theorem dX10_passFrom_148 : decode cX10_passFrom 148 = .ok (.iconst 2, 1) := by decide +kernel
theorem dX10_passFrom_149 : decode cX10_passFrom 149 = .ok (.if_icmp .ne 8, 3) := by decide +kernel
theorem dX10_passFrom_152 : decode cX10_passFrom 152 = .ok (.iload 5, 2) := by decide +kernel
theorem dX10_passFrom_154 : decode cX10_passFrom 154 = .ok (.goto 20, 3) := by decide +kernel
theorem dX10_passFrom_157 : decode cX10_passFrom 157 = .ok (.aload_n 0, 1) := by decide +kernel
theorem dX10_passFrom_158 : decode cX10_passFrom 158 = .ok (.getfield 19, 3) := by decide +kernel
theorem dX10_passFrom_161 : decode cX10_passFrom 161 = .ok (.getfield 106, 3) := by decide +kernel
theorem dX10_passFrom_164 : decode cX10_passFrom 164 = .ok (.iconst 1, 1) := by decide +kernel
theorem dX10_passFrom_165 : decode cX10_passFrom 165 = .ok (.if_icmp .ne 8, 3) := by decide +kernel
theorem dX10_passFrom_168 : decode cX10_passFrom 168 = .ok (.iload 6, 2) := by decide +kernel
theorem dX10_passFrom_170 : decode cX10_passFrom 170 = .ok (.goto 4, 3) := by decide +kernel
theorem dX10_passFrom_173 : decode cX10_passFrom 173 = .ok (.iconst 0, 1) := by decide +kernel
theorem dX10_passFrom_174 : decode cX10_passFrom 174 = .ok (.istore 10, 2) := by decide +kernel
theorem dX10_passFrom_176 : decode cX10_passFrom 176 = .ok (.aload_n 0, 1) := by decide +kernel
theorem dX10_passFrom_177 : decode cX10_passFrom 177 = .ok (.getfield 19, 3) := by decide +kernel
theorem dX10_passFrom_180 : decode cX10_passFrom 180 = .ok (.getfield 106, 3) := by decide +kernel
theorem dX10_passFrom_183 : decode cX10_passFrom 183 = .ok (.iconst 2, 1) := by decide +kernel
theorem dX10_passFrom_184 : decode cX10_passFrom 184 = .ok (.if_icmp .ne 8, 3) := by decide +kernel
theorem dX10_passFrom_187 : decode cX10_passFrom 187 = .ok (.iload 6, 2) := by decide +kernel
theorem dX10_passFrom_189 : decode cX10_passFrom 189 = .ok (.goto 4, 3) := by decide +kernel
theorem dX10_passFrom_192 : decode cX10_passFrom 192 = .ok (.iconst 0, 1) := by decide +kernel
theorem dX10_passFrom_193 : decode cX10_passFrom 193 = .ok (.istore 11, 2) := by decide +kernel
theorem dX10_passFrom_195 : decode cX10_passFrom 195 = .ok (.aload_n 0, 1) := by decide +kernel
theorem dX10_passFrom_196 : decode cX10_passFrom 196 = .ok (.getfield 46, 3) := by decide +kernel
theorem dX10_passFrom_199 : decode cX10_passFrom 199 = .ok (.ifCond .eq 17, 3) := by decide +kernel
theorem dX10_passFrom_202 : decode cX10_passFrom 202 = .ok (.iload 7, 2) := by decide +kernel
theorem dX10_passFrom_204 : decode cX10_passFrom 204 = .ok (.iconst 0, 1) := by decide +kernel
theorem dX10_passFrom_205 : decode cX10_passFrom 205 = .ok (.invokestatic 131, 3) := by decide +kernel
theorem dX10_passFrom_208 : decode cX10_passFrom 208 = .ok (.bipush 6, 2) := by decide +kernel
theorem dX10_passFrom_210 : decode cX10_passFrom 210 = .ok (.invokestatic 136, 3) := by decide +kernel
theorem dX10_passFrom_213 : decode cX10_passFrom 213 = .ok (.goto 5, 3) := by decide +kernel
theorem dX10_passFrom_216 : decode cX10_passFrom 216 = .ok (.bipush 6, 2) := by decide +kernel
theorem dX10_passFrom_218 : decode cX10_passFrom 218 = .ok (.istore 12, 2) := by decide +kernel
theorem dX10_passFrom_220 : decode cX10_passFrom 220 = .ok (.iconst 0, 1) := by decide +kernel
theorem dX10_passFrom_221 : decode cX10_passFrom 221 = .ok (.istore 13, 2) := by decide +kernel
theorem dX10_passFrom_223 : decode cX10_passFrom 223 = .ok (.iload 13, 2) := by decide +kernel
theorem dX10_passFrom_225 : decode cX10_passFrom 225 = .ok (.iload 12, 2) := by decide +kernel
theorem dX10_passFrom_227 : decode cX10_passFrom 227 = .ok (.if_icmp .gt 49, 3) := by decide +kernel
theorem dX10_passFrom_230 : decode cX10_passFrom 230 = .ok (.aload_n 0, 1) := by decide +kernel
theorem dX10_passFrom_231 : decode cX10_passFrom 231 = .ok (.getfield 19, 3) := by decide +kernel
theorem dX10_passFrom_234 : decode cX10_passFrom 234 = .ok (.iload 7, 2) := by decide +kernel
theorem dX10_passFrom_236 : decode cX10_passFrom 236 = .ok (.iload 13, 2) := by decide +kernel
theorem dX10_passFrom_238 : decode cX10_passFrom 238 = .ok (.invokevirtual 139, 3) := by decide +kernel
theorem dX10_passFrom_241 : decode cX10_passFrom 241 = .ok (.istore 14, 2) := by decide +kernel
theorem dX10_passFrom_243 : decode cX10_passFrom 243 = .ok (.aload_n 0, 1) := by decide +kernel
theorem dX10_passFrom_244 : decode cX10_passFrom 244 = .ok (.getfield 23, 3) := by decide +kernel
theorem dX10_passFrom_247 : decode cX10_passFrom 247 = .ok (.iload 14, 2) := by decide +kernel
theorem dX10_passFrom_249 : decode cX10_passFrom 249 = .ok (.iload 10, 2) := by decide +kernel
theorem dX10_passFrom_251 : decode cX10_passFrom 251 = .ok (.iadd, 1) := by decide +kernel
theorem dX10_passFrom_252 : decode cX10_passFrom 252 = .ok (.iload 11, 2) := by decide +kernel
theorem dX10_passFrom_254 : decode cX10_passFrom 254 = .ok (.invokestatic 78, 3) := by decide +kernel
theorem dX10_passFrom_257 : decode cX10_passFrom 257 = .ok (.lload 8, 2) := by decide +kernel
theorem dX10_passFrom_259 : decode cX10_passFrom 259 = .ok (.aload_n 2, 1) := by decide +kernel
theorem dX10_passFrom_260 : decode cX10_passFrom 260 = .ok (.iload 13, 2) := by decide +kernel
theorem dX10_passFrom_262 : decode cX10_passFrom 262 = .ok (.invokevirtual 142, 3) := by decide +kernel
theorem dX10_passFrom_265 : decode cX10_passFrom 265 = .ok (.i2l, 1) := by decide +kernel
theorem dX10_passFrom_266 : decode cX10_passFrom 266 = .ok (.lmul, 1) := by decide +kernel
theorem dX10_passFrom_267 : decode cX10_passFrom 267 = .ok (.invokevirtual 145, 3) := by decide +kernel
theorem dX10_passFrom_270 : decode cX10_passFrom 270 = .ok (.iinc 13 1, 3) := by decide +kernel
theorem dX10_passFrom_273 : decode cX10_passFrom 273 = .ok (.goto (-50), 3) := by decide +kernel
theorem dX10_passFrom_276 : decode cX10_passFrom 276 = .ok (.return_, 1) := by decide +kernel
theorem dX10_orderAt_0 : decode cX10_orderAt 0 = .ok (.iload_n 1, 1) := by decide +kernel
theorem dX10_orderAt_1 : decode cX10_orderAt 1 = .ok (.invokestatic 42, 3) := by decide +kernel
theorem dX10_orderAt_4 : decode cX10_orderAt 4 = .ok (.ifCond .ne 5, 3) := by decide +kernel
theorem dX10_orderAt_7 : decode cX10_orderAt 7 = .ok (.iconst 0, 1) := by decide +kernel
theorem dX10_orderAt_8 : decode cX10_orderAt 8 = .ok (.ireturn, 1) := by decide +kernel
theorem dX10_orderAt_9 : decode cX10_orderAt 9 = .ok (.aload_n 0, 1) := by decide +kernel
theorem dX10_orderAt_10 : decode cX10_orderAt 10 = .ok (.getfield 15, 3) := by decide +kernel
theorem dX10_orderAt_13 : decode cX10_orderAt 13 = .ok (.iload_n 1, 1) := by decide +kernel
theorem dX10_orderAt_14 : decode cX10_orderAt 14 = .ok (.bipush (-12), 2) := by decide +kernel
theorem dX10_orderAt_16 : decode cX10_orderAt 16 = .ok (.isub, 1) := by decide +kernel
theorem dX10_orderAt_17 : decode cX10_orderAt 17 = .ok (.iconst 1, 1) := by decide +kernel
theorem dX10_orderAt_18 : decode cX10_orderAt 18 = .ok (.bastore, 1) := by decide +kernel
theorem dX10_orderAt_19 : decode cX10_orderAt 19 = .ok (.aload_n 0, 1) := by decide +kernel
theorem dX10_orderAt_20 : decode cX10_orderAt 20 = .ok (.getfield 9, 3) := by decide +kernel
theorem dX10_orderAt_23 : decode cX10_orderAt 23 = .ok (.iload_n 1, 1) := by decide +kernel
theorem dX10_orderAt_24 : decode cX10_orderAt 24 = .ok (.bipush (-12), 2) := by decide +kernel
theorem dX10_orderAt_26 : decode cX10_orderAt 26 = .ok (.isub, 1) := by decide +kernel
theorem dX10_orderAt_27 : decode cX10_orderAt 27 = .ok (.iaload, 1) := by decide +kernel
theorem dX10_orderAt_28 : decode cX10_orderAt 28 = .ok (.ireturn, 1) := by decide +kernel
theorem dX10_placeOf_0 : decode cX10_placeOf 0 = .ok (.iload_n 1, 1) := by decide +kernel
theorem dX10_placeOf_1 : decode cX10_placeOf 1 = .ok (.bipush 37, 2) := by decide +kernel
theorem dX10_placeOf_3 : decode cX10_placeOf 3 = .ok (.imul, 1) := by decide +kernel
theorem dX10_placeOf_4 : decode cX10_placeOf 4 = .ok (.iload_n 0, 1) := by decide +kernel
theorem dX10_placeOf_5 : decode cX10_placeOf 5 = .ok (.iadd, 1) := by decide +kernel
theorem dX10_placeOf_6 : decode cX10_placeOf 6 = .ok (.bipush (-12), 2) := by decide +kernel
theorem dX10_placeOf_8 : decode cX10_placeOf 8 = .ok (.isub, 1) := by decide +kernel
theorem dX10_placeOf_9 : decode cX10_placeOf 9 = .ok (.ireturn, 1) := by decide +kernel
