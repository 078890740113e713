theorem dX9_nextCell_6 : decode cX9_nextCell 6 = .ok (.invokevirtual 179, 3) := by decide +kernel
theorem dX9_nextCell_9 : decode cX9_nextCell 9 = .ok (.istore_n 1, 1) := by decide +kernel
theorem dX9_nextCell_10 : decode cX9_nextCell 10 = .ok (.aload_n 0, 1) := by decide +kernel
theorem dX9_nextCell_11 : decode cX9_nextCell 11 = .ok (.getfield 17, 3) := by decide +kernel
theorem dX9_nextCell_14 : decode cX9_nextCell 14 = .ok (.bipush 8, 2) := by decide +kernel
theorem dX9_nextCell_16 : decode cX9_nextCell 16 = .ok (.iaload, 1) := by decide +kernel
theorem dX9_nextCell_17 : decode cX9_nextCell 17 = .ok (.istore_n 2, 1) := by decide +kernel
theorem dX9_nextCell_18 : decode cX9_nextCell 18 = .ok (.iload_n 2, 1) := by decide +kernel
theorem dX9_nextCell_19 : decode cX9_nextCell 19 = .ok (.aload_n 0, 1) := by decide +kernel
theorem dX9_nextCell_20 : decode cX9_nextCell 20 = .ok (.invokevirtual 341, 3) := by decide +kernel
theorem dX9_nextCell_23 : decode cX9_nextCell 23 = .ok (.if_icmp .ne 5, 3) := by decide +kernel
theorem dX9_nextCell_26 : decode cX9_nextCell 26 = .ok (.iconst (-1), 1) := by decide +kernel
theorem dX9_nextCell_27 : decode cX9_nextCell 27 = .ok (.ireturn, 1) := by decide +kernel
theorem dX9_nextCell_28 : decode cX9_nextCell 28 = .ok (.aload_n 0, 1) := by decide +kernel
theorem dX9_nextCell_29 : decode cX9_nextCell 29 = .ok (.iload_n 2, 1) := by decide +kernel
theorem dX9_nextCell_30 : decode cX9_nextCell 30 = .ok (.invokevirtual 148, 3) := by decide +kernel
theorem dX9_nextCell_33 : decode cX9_nextCell 33 = .ok (.istore_n 3, 1) := by decide +kernel
theorem dX9_nextCell_34 : decode cX9_nextCell 34 = .ok (.bipush 100, 2) := by decide +kernel
theorem dX9_nextCell_36 : decode cX9_nextCell 36 = .ok (.aload_n 0, 1) := by decide +kernel
theorem dX9_nextCell_37 : decode cX9_nextCell 37 = .ok (.getfield 27, 3) := by decide +kernel
theorem dX9_nextCell_40 : decode cX9_nextCell 40 = .ok (.iload_n 3, 1) := by decide +kernel
theorem dX9_nextCell_41 : decode cX9_nextCell 41 = .ok (.iaload, 1) := by decide +kernel
theorem dX9_nextCell_42 : decode cX9_nextCell 42 = .ok (.imul, 1) := by decide +kernel
theorem dX9_nextCell_43 : decode cX9_nextCell 43 = .ok (.aload_n 0, 1) := by decide +kernel
theorem dX9_nextCell_44 : decode cX9_nextCell 44 = .ok (.getfield 30, 3) := by decide +kernel
theorem dX9_nextCell_47 : decode cX9_nextCell 47 = .ok (.iload_n 3, 1) := by decide +kernel
theorem dX9_nextCell_48 : decode cX9_nextCell 48 = .ok (.iaload, 1) := by decide +kernel
theorem dX9_nextCell_49 : decode cX9_nextCell 49 = .ok (.iadd, 1) := by decide +kernel
theorem dX9_nextCell_50 : decode cX9_nextCell 50 = .ok (.iload_n 2, 1) := by decide +kernel
theorem dX9_nextCell_51 : decode cX9_nextCell 51 = .ok (.iadd, 1) := by decide +kernel
theorem dX9_nextCell_52 : decode cX9_nextCell 52 = .ok (.aload_n 0, 1) := by decide +kernel
theorem dX9_nextCell_53 : decode cX9_nextCell 53 = .ok (.iload_n 3, 1) := by decide +kernel
theorem dX9_nextCell_54 : decode cX9_nextCell 54 = .ok (.invokevirtual 145, 3) := by decide +kernel
theorem dX9_nextCell_57 : decode cX9_nextCell 57 = .ok (.isub, 1) := by decide +kernel
theorem dX9_nextCell_58 : decode cX9_nextCell 58 = .ok (.ireturn, 1) := by decide +kernel
theorem dX9_laidIf_0 : decode cX9_laidIf 0 = .ok (.aload_n 0, 1) := by decide +kernel
theorem dX9_laidIf_1 : decode cX9_laidIf 1 = .ok (.aload_n 0, 1) := by decide +kernel
theorem dX9_laidIf_2 : decode cX9_laidIf 2 = .ok (.iload_n 1, 1) := by decide +kernel
theorem dX9_laidIf_3 : decode cX9_laidIf 3 = .ok (.iload_n 2, 1) := by decide +kernel
theorem dX9_laidIf_4 : decode cX9_laidIf 4 = .ok (.invokevirtual 82, 3) := by decide +kernel
theorem dX9_laidIf_7 : decode cX9_laidIf 7 = .ok (.invokevirtual 191, 3) := by decide +kernel
theorem dX9_laidIf_10 : decode cX9_laidIf 10 = .ok (.ifCond .ne 5, 3) := by decide +kernel
theorem dX9_laidIf_13 : decode cX9_laidIf 13 = .ok (.iconst 0, 1) := by decide +kernel
theorem dX9_laidIf_14 : decode cX9_laidIf 14 = .ok (.ireturn, 1) := by decide +kernel
theorem dX9_laidIf_15 : decode cX9_laidIf 15 = .ok (.aload_n 0, 1) := by decide +kernel
theorem dX9_laidIf_16 : decode cX9_laidIf 16 = .ok (.invokevirtual 385, 3) := by decide +kernel
theorem dX9_laidIf_19 : decode cX9_laidIf 19 = .ok (.aload_n 0, 1) := by decide +kernel
theorem dX9_laidIf_20 : decode cX9_laidIf 20 = .ok (.iload_n 1, 1) := by decide +kernel
theorem dX9_laidIf_21 : decode cX9_laidIf 21 = .ok (.iload_n 2, 1) := by decide +kernel
theorem dX9_laidIf_22 : decode cX9_laidIf 22 = .ok (.aload_n 0, 1) := by decide +kernel
theorem dX9_laidIf_23 : decode cX9_laidIf 23 = .ok (.iload_n 1, 1) := by decide +kernel
theorem dX9_laidIf_24 : decode cX9_laidIf 24 = .ok (.iload_n 2, 1) := by decide +kernel
theorem dX9_laidIf_25 : decode cX9_laidIf 25 = .ok (.invokevirtual 93, 3) := by decide +kernel
theorem dX9_laidIf_28 : decode cX9_laidIf 28 = .ok (.ifCond .eq 7, 3) := by decide +kernel
theorem dX9_laidIf_31 : decode cX9_laidIf 31 = .ok (.iconst 0, 1) := by decide +kernel
theorem dX9_laidIf_32 : decode cX9_laidIf 32 = .ok (.goto 4, 3) := by decide +kernel
theorem dX9_laidIf_35 : decode cX9_laidIf 35 = .ok (.iconst 1, 1) := by decide +kernel
theorem dX9_laidIf_36 : decode cX9_laidIf 36 = .ok (.invokevirtual 175, 3) := by decide +kernel
theorem dX9_laidIf_39 : decode cX9_laidIf 39 = .ok (.aload_n 0, 1) := by decide +kernel
theorem dX9_laidIf_40 : decode cX9_laidIf 40 = .ok (.aload_n 0, 1) := by decide +kernel
theorem dX9_laidIf_41 : decode cX9_laidIf 41 = .ok (.invokevirtual 179, 3) := by decide +kernel
theorem dX9_laidIf_44 : decode cX9_laidIf 44 = .ok (.invokevirtual 388, 3) := by decide +kernel
theorem dX9_laidIf_47 : decode cX9_laidIf 47 = .ok (.ireturn, 1) := by decide +kernel
theorem dX9_worstFlaw_0 : decode cX9_worstFlaw 0 = .ok (.aload_n 0, 1) := by decide +kernel
theorem dX9_worstFlaw_1 : decode cX9_worstFlaw 1 = .ok (.iconst 0, 1) := by decide +kernel
theorem dX9_worstFlaw_2 : decode cX9_worstFlaw 2 = .ok (.putfield 3, 3) := by decide +kernel
theorem dX9_worstFlaw_5 : decode cX9_worstFlaw 5 = .ok (.iconst (-1), 1) := by decide +kernel
theorem dX9_worstFlaw_6 : decode cX9_worstFlaw 6 = .ok (.istore_n 1, 1) := by decide +kernel
theorem dX9_worstFlaw_7 : decode cX9_worstFlaw 7 = .ok (.iconst (-1), 1) := by decide +kernel
theorem dX9_worstFlaw_8 : decode cX9_worstFlaw 8 = .ok (.istore_n 2, 1) := by decide +kernel
theorem dX9_worstFlaw_9 : decode cX9_worstFlaw 9 = .ok (.iconst 0, 1) := by decide +kernel
theorem dX9_worstFlaw_10 : decode cX9_worstFlaw 10 = .ok (.istore_n 3, 1) := by decide +kernel
theorem dX9_worstFlaw_11 : decode cX9_worstFlaw 11 = .ok (.iload_n 3, 1) := by decide +kernel
theorem dX9_worstFlaw_12 : decode cX9_worstFlaw 12 = .ok (.aload_n 0, 1) := by decide +kernel
theorem dX9_worstFlaw_13 : decode cX9_worstFlaw 13 = .ok (.invokevirtual 79, 3) := by decide +kernel
theorem dX9_worstFlaw_16 : decode cX9_worstFlaw 16 = .ok (.if_icmp .ge 75, 3) := by decide +kernel
theorem dX9_worstFlaw_19 : decode cX9_worstFlaw 19 = .ok (.iconst 0, 1) := by decide +kernel
theorem dX9_worstFlaw_20 : decode cX9_worstFlaw 20 = .ok (.istore 4, 2) := by decide +kernel
theorem dX9_worstFlaw_22 : decode cX9_worstFlaw 22 = .ok (.iload 4, 2) := by decide +kernel
theorem dX9_worstFlaw_24 : decode cX9_worstFlaw 24 = .ok (.aload_n 0, 1) := by decide +kernel
theorem dX9_worstFlaw_25 : decode cX9_worstFlaw 25 = .ok (.invokevirtual 71, 3) := by decide +kernel
theorem dX9_worstFlaw_28 : decode cX9_worstFlaw 28 = .ok (.if_icmp .ge 57, 3) := by decide +kernel
theorem dX9_worstFlaw_31 : decode cX9_worstFlaw 31 = .ok (.aload_n 0, 1) := by decide +kernel
theorem dX9_worstFlaw_32 : decode cX9_worstFlaw 32 = .ok (.iload 4, 2) := by decide +kernel
theorem dX9_worstFlaw_34 : decode cX9_worstFlaw 34 = .ok (.iload_n 3, 1) := by decide +kernel
theorem dX9_worstFlaw_35 : decode cX9_worstFlaw 35 = .ok (.invokevirtual 93, 3) := by decide +kernel
theorem dX9_worstFlaw_38 : decode cX9_worstFlaw 38 = .ok (.ifCond .eq 13, 3) := by decide +kernel
theorem dX9_worstFlaw_41 : decode cX9_worstFlaw 41 = .ok (.aload_n 0, 1) := by decide +kernel
theorem dX9_worstFlaw_42 : decode cX9_worstFlaw 42 = .ok (.iload 4, 2) := by decide +kernel
theorem dX9_worstFlaw_44 : decode cX9_worstFlaw 44 = .ok (.iload_n 3, 1) := by decide +kernel
theorem dX9_worstFlaw_45 : decode cX9_worstFlaw 45 = .ok (.invokevirtual 391, 3) := by decide +kernel
theorem dX9_worstFlaw_48 : decode cX9_worstFlaw 48 = .ok (.goto 4, 3) := by decide +kernel
theorem dX9_worstFlaw_51 : decode cX9_worstFlaw 51 = .ok (.iconst (-1), 1) := by decide +kernel
theorem dX9_worstFlaw_52 : decode cX9_worstFlaw 52 = .ok (.istore 5, 2) := by decide +kernel
theorem dX9_worstFlaw_54 : decode cX9_worstFlaw 54 = .ok (.iload 5, 2) := by decide +kernel
theorem dX9_worstFlaw_56 : decode cX9_worstFlaw 56 = .ok (.iload_n 2, 1) := by decide +kernel
theorem dX9_worstFlaw_57 : decode cX9_worstFlaw 57 = .ok (.if_icmp .le 13, 3) := by decide +kernel
theorem dX9_worstFlaw_60 : decode cX9_worstFlaw 60 = .ok (.bipush 100, 2) := by decide +kernel
theorem dX9_worstFlaw_62 : decode cX9_worstFlaw 62 = .ok (.iload_n 3, 1) := by decide +kernel
theorem dX9_worstFlaw_63 : decode cX9_worstFlaw 63 = .ok (.imul, 1) := by decide +kernel
theorem dX9_worstFlaw_64 : decode cX9_worstFlaw 64 = .ok (.iload 4, 2) := by decide +kernel
theorem dX9_worstFlaw_66 : decode cX9_worstFlaw 66 = .ok (.iadd, 1) := by decide +kernel
theorem dX9_worstFlaw_67 : decode cX9_worstFlaw 67 = .ok (.goto 4, 3) := by decide +kernel
theorem dX9_worstFlaw_70 : decode cX9_worstFlaw 70 = .ok (.iload_n 1, 1) := by decide +kernel
theorem dX9_worstFlaw_71 : decode cX9_worstFlaw 71 = .ok (.istore_n 1, 1) := by decide +kernel
theorem dX9_worstFlaw_72 : decode cX9_worstFlaw 72 = .ok (.iload_n 2, 1) := by decide +kernel
theorem dX9_worstFlaw_73 : decode cX9_worstFlaw 73 = .ok (.iload 5, 2) := by decide +kernel
theorem dX9_worstFlaw_75 : decode cX9_worstFlaw 75 = .ok (.invokestatic 160, 3) := by decide +kernel
theorem dX9_worstFlaw_78 : decode cX9_worstFlaw 78 = .ok (.istore_n 2, 1) := by decide +kernel
theorem dX9_worstFlaw_79 : decode cX9_worstFlaw 79 = .ok (.iinc 4 1, 3) := by decide +kernel
theorem dX9_worstFlaw_82 : decode cX9_worstFlaw 82 = .ok (.goto (-60), 3) := by decide +kernel
theorem dX9_worstFlaw_85 : decode cX9_worstFlaw 85 = .ok (.iinc 3 1, 3) := by decide +kernel
theorem dX9_worstFlaw_88 : decode cX9_worstFlaw 88 = .ok (.goto (-77), 3) := by decide +kernel
theorem dX9_worstFlaw_91 : decode cX9_worstFlaw 91 = .ok (.iload_n 1, 1) := by decide +kernel
theorem dX9_worstFlaw_92 : decode cX9_worstFlaw 92 = .ok (.ireturn, 1) := by decide +kernel
theorem dX9_laidWithout_0 : decode cX9_laidWithout 0 = .ok (.aload_n 0, 1) := by decide +kernel
theorem dX9_laidWithout_1 : decode cX9_laidWithout 1 = .ok (.iconst 0, 1) := by decide +kernel
theorem dX9_laidWithout_2 : decode cX9_laidWithout 2 = .ok (.putfield 3, 3) := by decide +kernel
theorem dX9_laidWithout_5 : decode cX9_laidWithout 5 = .ok (.aload_n 0, 1) := by decide +kernel
theorem dX9_laidWithout_6 : decode cX9_laidWithout 6 = .ok (.invokevirtual 385, 3) := by decide +kernel
theorem dX9_laidWithout_9 : decode cX9_laidWithout 9 = .ok (.iconst 0, 1) := by decide +kernel
theorem dX9_laidWithout_10 : decode cX9_laidWithout 10 = .ok (.istore_n 1, 1) := by decide +kernel
theorem dX9_laidWithout_11 : decode cX9_laidWithout 11 = .ok (.iload_n 1, 1) := by decide +kernel
theorem dX9_laidWithout_12 : decode cX9_laidWithout 12 = .ok (.sipush 288, 3) := by decide +kernel
theorem dX9_laidWithout_15 : decode cX9_laidWithout 15 = .ok (.if_icmp .ge 19, 3) := by decide +kernel
theorem dX9_laidWithout_18 : decode cX9_laidWithout 18 = .ok (.aload_n 0, 1) := by decide +kernel
theorem dX9_laidWithout_19 : decode cX9_laidWithout 19 = .ok (.getfield 17, 3) := by decide +kernel
theorem dX9_laidWithout_22 : decode cX9_laidWithout 22 = .ok (.bipush 11, 2) := by decide +kernel
theorem dX9_laidWithout_24 : decode cX9_laidWithout 24 = .ok (.iload_n 1, 1) := by decide +kernel
theorem dX9_laidWithout_25 : decode cX9_laidWithout 25 = .ok (.iadd, 1) := by decide +kernel
theorem dX9_laidWithout_26 : decode cX9_laidWithout 26 = .ok (.iconst 0, 1) := by decide +kernel
theorem dX9_laidWithout_27 : decode cX9_laidWithout 27 = .ok (.iastore, 1) := by decide +kernel
theorem dX9_laidWithout_28 : decode cX9_laidWithout 28 = .ok (.iinc 1 1, 3) := by decide +kernel
theorem dX9_laidWithout_31 : decode cX9_laidWithout 31 = .ok (.goto (-20), 3) := by decide +kernel
theorem dX9_laidWithout_34 : decode cX9_laidWithout 34 = .ok (.aload_n 0, 1) := by decide +kernel
theorem dX9_laidWithout_35 : decode cX9_laidWithout 35 = .ok (.aload_n 0, 1) := by decide +kernel
theorem dX9_laidWithout_36 : decode cX9_laidWithout 36 = .ok (.invokevirtual 179, 3) := by decide +kernel
theorem dX9_laidWithout_39 : decode cX9_laidWithout 39 = .ok (.invokevirtual 388, 3) := by decide +kernel
theorem dX9_laidWithout_42 : decode cX9_laidWithout 42 = .ok (.ireturn, 1) := by decide +kernel
theorem dX9_isGap_0 : decode cX9_isGap 0 = .ok (.iload_n 0, 1) := by decide +kernel
theorem dX9_isGap_1 : decode cX9_isGap 1 = .ok (.i2l, 1) := by decide +kernel
theorem dX9_isGap_2 : decode cX9_isGap 2 = .ok (.lconst 0, 1) := by decide +kernel
theorem dX9_isGap_3 : decode cX9_isGap 3 = .ok (.ldc2_w 394, 3) := by decide +kernel
theorem dX9_isGap_6 : decode cX9_isGap 6 = .ok (.invokestatic 75, 3) := by decide +kernel
theorem dX9_isGap_9 : decode cX9_isGap 9 = .ok (.ireturn, 1) := by decide +kernel
theorem dX9_laidWith_0 : decode cX9_laidWith 0 = .ok (.aload_n 0, 1) := by decide +kernel
theorem dX9_laidWith_1 : decode cX9_laidWith 1 = .ok (.iload_n 1, 1) := by decide +kernel
theorem dX9_laidWith_2 : decode cX9_laidWith 2 = .ok (.invokestatic 396, 3) := by decide +kernel
theorem dX9_laidWith_5 : decode cX9_laidWith 5 = .ok (.invokevirtual 191, 3) := by decide +kernel
theorem dX9_laidWith_8 : decode cX9_laidWith 8 = .ok (.ifCond .ne 5, 3) := by decide +kernel
theorem dX9_laidWith_11 : decode cX9_laidWith 11 = .ok (.iconst 0, 1) := by decide +kernel
theorem dX9_laidWith_12 : decode cX9_laidWith 12 = .ok (.ireturn, 1) := by decide +kernel
theorem dX9_laidWith_13 : decode cX9_laidWith 13 = .ok (.aload_n 0, 1) := by decide +kernel
theorem dX9_laidWith_14 : decode cX9_laidWith 14 = .ok (.invokevirtual 385, 3) := by decide +kernel
theorem dX9_laidWith_17 : decode cX9_laidWith 17 = .ok (.aload_n 0, 1) := by decide +kernel
theorem dX9_laidWith_18 : decode cX9_laidWith 18 = .ok (.getfield 17, 3) := by decide +kernel
theorem dX9_laidWith_21 : decode cX9_laidWith 21 = .ok (.iconst 2, 1) := by decide +kernel
theorem dX9_laidWith_22 : decode cX9_laidWith 22 = .ok (.iload_n 1, 1) := by decide +kernel
theorem dX9_laidWith_23 : decode cX9_laidWith 23 = .ok (.iastore, 1) := by decide +kernel
theorem dX9_laidWith_24 : decode cX9_laidWith 24 = .ok (.aload_n 0, 1) := by decide +kernel
theorem dX9_laidWith_25 : decode cX9_laidWith 25 = .ok (.aload_n 0, 1) := by decide +kernel
theorem dX9_laidWith_26 : decode cX9_laidWith 26 = .ok (.invokevirtual 179, 3) := by decide +kernel
theorem dX9_laidWith_29 : decode cX9_laidWith 29 = .ok (.invokevirtual 388, 3) := by decide +kernel
theorem dX9_laidWith_32 : decode cX9_laidWith 32 = .ok (.ireturn, 1) := by decide +kernel
theorem dX9_laidTurned_0 : decode cX9_laidTurned 0 = .ok (.aload_n 0, 1) := by decide +kernel
theorem dX9_laidTurned_1 : decode cX9_laidTurned 1 = .ok (.iconst 0, 1) := by decide +kernel
theorem dX9_laidTurned_2 : decode cX9_laidTurned 2 = .ok (.putfield 3, 3) := by decide +kernel
theorem dX9_laidTurned_5 : decode cX9_laidTurned 5 = .ok (.aload_n 0, 1) := by decide +kernel
theorem dX9_laidTurned_6 : decode cX9_laidTurned 6 = .ok (.invokevirtual 385, 3) := by decide +kernel
theorem dX9_laidTurned_9 : decode cX9_laidTurned 9 = .ok (.aload_n 0, 1) := by decide +kernel
theorem dX9_laidTurned_10 : decode cX9_laidTurned 10 = .ok (.invokevirtual 399, 3) := by decide +kernel
theorem dX9_laidTurned_13 : decode cX9_laidTurned 13 = .ok (.aload_n 0, 1) := by decide +kernel
theorem dX9_laidTurned_14 : decode cX9_laidTurned 14 = .ok (.aload_n 0, 1) := by decide +kernel
theorem dX9_laidTurned_15 : decode cX9_laidTurned 15 = .ok (.invokevirtual 179, 3) := by decide +kernel
theorem dX9_laidTurned_18 : decode cX9_laidTurned 18 = .ok (.invokevirtual 388, 3) := by decide +kernel
theorem dX9_laidTurned_21 : decode cX9_laidTurned 21 = .ok (.ireturn, 1) := by decide +kernel
theorem dX9_leastRows_0 : decode cX9_leastRows 0 = .ok (.aload_n 0, 1) := by decide +kernel
theorem dX9_leastRows_1 : decode cX9_leastRows 1 = .ok (.iconst 0, 1) := by decide +kernel
theorem dX9_leastRows_2 : decode cX9_leastRows 2 = .ok (.putfield 3, 3) := by decide +kernel
theorem dX9_leastRows_5 : decode cX9_leastRows 5 = .ok (.iconst 1, 1) := by decide +kernel
theorem dX9_leastRows_6 : decode cX9_leastRows 6 = .ok (.istore_n 1, 1) := by decide +kernel
theorem dX9_leastRows_7 : decode cX9_leastRows 7 = .ok (.iload_n 1, 1) := by decide +kernel
theorem dX9_leastRows_8 : decode cX9_leastRows 8 = .ok (.aload_n 0, 1) := by decide +kernel
theorem dX9_leastRows_9 : decode cX9_leastRows 9 = .ok (.getfield 17, 3) := by decide +kernel
theorem dX9_leastRows_12 : decode cX9_leastRows 12 = .ok (.iconst 1, 1) := by decide +kernel
theorem dX9_leastRows_13 : decode cX9_leastRows 13 = .ok (.iaload, 1) := by decide +kernel
theorem dX9_leastRows_14 : decode cX9_leastRows 14 = .ok (.if_icmp .gt 50, 3) := by decide +kernel
theorem dX9_leastRows_17 : decode cX9_leastRows 17 = .ok (.aload_n 0, 1) := by decide +kernel
theorem dX9_leastRows_18 : decode cX9_leastRows 18 = .ok (.invokevirtual 385, 3) := by decide +kernel
theorem dX9_leastRows_21 : decode cX9_leastRows 21 = .ok (.aload_n 0, 1) := by decide +kernel
theorem dX9_leastRows_22 : decode cX9_leastRows 22 = .ok (.getfield 17, 3) := by decide +kernel
theorem dX9_leastRows_25 : decode cX9_leastRows 25 = .ok (.iconst 1, 1) := by decide +kernel
theorem dX9_leastRows_26 : decode cX9_leastRows 26 = .ok (.iload_n 1, 1) := by decide +kernel
theorem dX9_leastRows_27 : decode cX9_leastRows 27 = .ok (.iastore, 1) := by decide +kernel
theorem dX9_leastRows_28 : decode cX9_leastRows 28 = .ok (.aload_n 0, 1) := by decide +kernel
theorem dX9_leastRows_29 : decode cX9_leastRows 29 = .ok (.aload_n 0, 1) := by decide +kernel
theorem dX9_leastRows_30 : decode cX9_leastRows 30 = .ok (.invokevirtual 179, 3) := by decide +kernel
theorem dX9_leastRows_33 : decode cX9_leastRows 33 = .ok (.invokevirtual 388, 3) := by decide +kernel
theorem dX9_leastRows_36 : decode cX9_leastRows 36 = .ok (.aload_n 0, 1) := by decide +kernel
theorem dX9_leastRows_37 : decode cX9_leastRows 37 = .ok (.getfield 17, 3) := by decide +kernel
theorem dX9_leastRows_40 : decode cX9_leastRows 40 = .ok (.bipush 10, 2) := by decide +kernel
theorem dX9_leastRows_42 : decode cX9_leastRows 42 = .ok (.iaload, 1) := by decide +kernel
theorem dX9_leastRows_43 : decode cX9_leastRows 43 = .ok (.if_icmp .ne 7, 3) := by decide +kernel
theorem dX9_leastRows_46 : decode cX9_leastRows 46 = .ok (.iconst 1, 1) := by decide +kernel
theorem dX9_leastRows_47 : decode cX9_leastRows 47 = .ok (.goto 4, 3) := by decide +kernel
theorem dX9_leastRows_50 : decode cX9_leastRows 50 = .ok (.iconst 0, 1) := by decide +kernel
theorem dX9_leastRows_51 : decode cX9_leastRows 51 = .ok (.istore_n 2, 1) := by decide +kernel
theorem dX9_leastRows_52 : decode cX9_leastRows 52 = .ok (.iload_n 2, 1) := by decide +kernel
theorem dX9_leastRows_53 : decode cX9_leastRows 53 = .ok (.ifCond .eq 5, 3) := by decide +kernel
theorem dX9_leastRows_56 : decode cX9_leastRows 56 = .ok (.iload_n 1, 1) := by decide +kernel
theorem dX9_leastRows_57 : decode cX9_leastRows 57 = .ok (.ireturn, 1) := by decide +kernel
theorem dX9_leastRows_58 : decode cX9_leastRows 58 = .ok (.iinc 1 1, 3) := by decide +kernel
theorem dX9_leastRows_61 : decode cX9_leastRows 61 = .ok (.goto (-54), 3) := by decide +kernel
theorem dX9_leastRows_64 : decode cX9_leastRows 64 = .ok (.iconst (-1), 1) := by decide +kernel
theorem dX9_leastRows_65 : decode cX9_leastRows 65 = .ok (.ireturn, 1) := by decide +kernel
theorem dX9_laidBut_0 : decode cX9_laidBut 0 = .ok (.aload_n 0, 1) := by decide +kernel
theorem dX9_laidBut_1 : decode cX9_laidBut 1 = .ok (.aload_n 0, 1) := by decide +kernel
theorem dX9_laidBut_2 : decode cX9_laidBut 2 = .ok (.iload_n 1, 1) := by decide +kernel
theorem dX9_laidBut_3 : decode cX9_laidBut 3 = .ok (.invokevirtual 344, 3) := by decide +kernel
theorem dX9_laidBut_6 : decode cX9_laidBut 6 = .ok (.invokevirtual 191, 3) := by decide +kernel
theorem dX9_laidBut_9 : decode cX9_laidBut 9 = .ok (.ifCond .ne 5, 3) := by decide +kernel
theorem dX9_laidBut_12 : decode cX9_laidBut 12 = .ok (.iconst 0, 1) := by decide +kernel
theorem dX9_laidBut_13 : decode cX9_laidBut 13 = .ok (.ireturn, 1) := by decide +kernel
theorem dX9_laidBut_14 : decode cX9_laidBut 14 = .ok (.aload_n 0, 1) := by decide +kernel
theorem dX9_laidBut_15 : decode cX9_laidBut 15 = .ok (.invokevirtual 385, 3) := by decide +kernel
theorem dX9_laidBut_18 : decode cX9_laidBut 18 = .ok (.aload_n 0, 1) := by decide +kernel
theorem dX9_laidBut_19 : decode cX9_laidBut 19 = .ok (.iload_n 1, 1) := by decide +kernel
theorem dX9_laidBut_20 : decode cX9_laidBut 20 = .ok (.invokevirtual 171, 3) := by decide +kernel
theorem dX9_laidBut_23 : decode cX9_laidBut 23 = .ok (.aload_n 0, 1) := by decide +kernel
theorem dX9_laidBut_24 : decode cX9_laidBut 24 = .ok (.aload_n 0, 1) := by decide +kernel
theorem dX9_laidBut_25 : decode cX9_laidBut 25 = .ok (.invokevirtual 179, 3) := by decide +kernel
theorem dX9_laidBut_28 : decode cX9_laidBut 28 = .ok (.invokevirtual 388, 3) := by decide +kernel
theorem dX9_laidBut_31 : decode cX9_laidBut 31 = .ok (.ireturn, 1) := by decide +kernel
theorem dX9_bestPlace_0 : decode cX9_bestPlace 0 = .ok (.aload_n 0, 1) := by decide +kernel
theorem dX9_bestPlace_1 : decode cX9_bestPlace 1 = .ok (.aload_n 0, 1) := by decide +kernel
theorem dX9_bestPlace_2 : decode cX9_bestPlace 2 = .ok (.iload_n 1, 1) := by decide +kernel
theorem dX9_bestPlace_3 : decode cX9_bestPlace 3 = .ok (.invokevirtual 344, 3) := by decide +kernel
theorem dX9_bestPlace_6 : decode cX9_bestPlace 6 = .ok (.invokevirtual 191, 3) := by decide +kernel
theorem dX9_bestPlace_9 : decode cX9_bestPlace 9 = .ok (.ifCond .ne 5, 3) := by decide +kernel
theorem dX9_bestPlace_12 : decode cX9_bestPlace 12 = .ok (.iconst 0, 1) := by decide +kernel
theorem dX9_bestPlace_13 : decode cX9_bestPlace 13 = .ok (.ireturn, 1) := by decide +kernel
theorem dX9_bestPlace_14 : decode cX9_bestPlace 14 = .ok (.iconst (-1), 1) := by decide +kernel
theorem dX9_bestPlace_15 : decode cX9_bestPlace 15 = .ok (.istore_n 2, 1) := by decide +kernel
theorem dX9_bestPlace_16 : decode cX9_bestPlace 16 = .ok (.iconst (-1), 1) := by decide +kernel
theorem dX9_bestPlace_17 : decode cX9_bestPlace 17 = .ok (.istore_n 3, 1) := by decide +kernel
theorem dX9_bestPlace_18 : decode cX9_bestPlace 18 = .ok (.iconst 0, 1) := by decide +kernel
theorem dX9_bestPlace_19 : decode cX9_bestPlace 19 = .ok (.istore 4, 2) := by decide +kernel
theorem dX9_bestPlace_21 : decode cX9_bestPlace 21 = .ok (.iload 4, 2) := by decide +kernel
theorem dX9_bestPlace_23 : decode cX9_bestPlace 23 = .ok (.aload_n 0, 1) := by decide +kernel
theorem dX9_bestPlace_24 : decode cX9_bestPlace 24 = .ok (.getfield 17, 3) := by decide +kernel
theorem dX9_bestPlace_27 : decode cX9_bestPlace 27 = .ok (.bipush 9, 2) := by decide +kernel
theorem dX9_bestPlace_29 : decode cX9_bestPlace 29 = .ok (.iaload, 1) := by decide +kernel
theorem dX9_bestPlace_30 : decode cX9_bestPlace 30 = .ok (.if_icmp .ge 50, 3) := by decide +kernel
theorem dX9_bestPlace_33 : decode cX9_bestPlace 33 = .ok (.aload_n 0, 1) := by decide +kernel
theorem dX9_bestPlace_34 : decode cX9_bestPlace 34 = .ok (.invokevirtual 385, 3) := by decide +kernel
theorem dX9_bestPlace_37 : decode cX9_bestPlace 37 = .ok (.aload_n 0, 1) := by decide +kernel
theorem dX9_bestPlace_38 : decode cX9_bestPlace 38 = .ok (.iload_n 1, 1) := by decide +kernel
theorem dX9_bestPlace_39 : decode cX9_bestPlace 39 = .ok (.iload 4, 2) := by decide +kernel
theorem dX9_bestPlace_41 : decode cX9_bestPlace 41 = .ok (.invokevirtual 402, 3) := by decide +kernel
theorem dX9_bestPlace_44 : decode cX9_bestPlace 44 = .ok (.aload_n 0, 1) := by decide +kernel
theorem dX9_bestPlace_45 : decode cX9_bestPlace 45 = .ok (.aload_n 0, 1) := by decide +kernel
theorem dX9_bestPlace_46 : decode cX9_bestPlace 46 = .ok (.invokevirtual 179, 3) := by decide +kernel
theorem dX9_bestPlace_49 : decode cX9_bestPlace 49 = .ok (.invokevirtual 388, 3) := by decide +kernel
theorem dX9_bestPlace_52 : decode cX9_bestPlace 52 = .ok (.istore 5, 2) := by decide +kernel
theorem dX9_bestPlace_54 : decode cX9_bestPlace 54 = .ok (.iload 5, 2) := by decide +kernel
theorem dX9_bestPlace_56 : decode cX9_bestPlace 56 = .ok (.iload_n 3, 1) := by decide +kernel
theorem dX9_bestPlace_57 : decode cX9_bestPlace 57 = .ok (.if_icmp .le 8, 3) := by decide +kernel
theorem dX9_bestPlace_60 : decode cX9_bestPlace 60 = .ok (.iload 4, 2) := by decide +kernel
theorem dX9_bestPlace_62 : decode cX9_bestPlace 62 = .ok (.goto 4, 3) := by decide +kernel
theorem dX9_bestPlace_65 : decode cX9_bestPlace 65 = .ok (.iload_n 2, 1) := by decide +kernel
theorem dX9_bestPlace_66 : decode cX9_bestPlace 66 = .ok (.istore_n 2, 1) := by decide +kernel
theorem dX9_bestPlace_67 : decode cX9_bestPlace 67 = .ok (.iload_n 3, 1) := by decide +kernel
theorem dX9_bestPlace_68 : decode cX9_bestPlace 68 = .ok (.iload 5, 2) := by decide +kernel
theorem dX9_bestPlace_70 : decode cX9_bestPlace 70 = .ok (.invokestatic 160, 3) := by decide +kernel
theorem dX9_bestPlace_73 : decode cX9_bestPlace 73 = .ok (.istore_n 3, 1) := by decide +kernel
theorem dX9_bestPlace_74 : decode cX9_bestPlace 74 = .ok (.iinc 4 1, 3) := by decide +kernel
theorem dX9_bestPlace_77 : decode cX9_bestPlace 77 = .ok (.goto (-56), 3) := by decide +kernel
theorem dX9_bestPlace_80 : decode cX9_bestPlace 80 = .ok (.iload_n 2, 1) := by decide +kernel
theorem dX9_bestPlace_81 : decode cX9_bestPlace 81 = .ok (.ireturn, 1) := by decide +kernel
theorem dX9_hasLetter_0 : decode cX9_hasLetter 0 = .ok (.aload_n 0, 1) := by decide +kernel
theorem dX9_hasLetter_1 : decode cX9_hasLetter 1 = .ok (.iload_n 1, 1) := by decide +kernel
theorem dX9_hasLetter_2 : decode cX9_hasLetter 2 = .ok (.iload_n 2, 1) := by decide +kernel
theorem dX9_hasLetter_3 : decode cX9_hasLetter 3 = .ok (.invokevirtual 82, 3) := by decide +kernel
theorem dX9_hasLetter_6 : decode cX9_hasLetter 6 = .ok (.ifCond .eq 17, 3) := by decide +kernel
theorem dX9_hasLetter_9 : decode cX9_hasLetter 9 = .ok (.aload_n 0, 1) := by decide +kernel
theorem dX9_hasLetter_10 : decode cX9_hasLetter 10 = .ok (.iload_n 1, 1) := by decide +kernel
theorem dX9_hasLetter_11 : decode cX9_hasLetter 11 = .ok (.iload_n 2, 1) := by decide +kernel
theorem dX9_hasLetter_12 : decode cX9_hasLetter 12 = .ok (.invokevirtual 365, 3) := by decide +kernel
theorem dX9_hasLetter_15 : decode cX9_hasLetter 15 = .ok (.iconst (-1), 1) := by decide +kernel
theorem dX9_hasLetter_16 : decode cX9_hasLetter 16 = .ok (.if_icmp .eq 7, 3) := by decide +kernel
theorem dX9_hasLetter_19 : decode cX9_hasLetter 19 = .ok (.iconst 1, 1) := by decide +kernel
theorem dX9_hasLetter_20 : decode cX9_hasLetter 20 = .ok (.goto 4, 3) := by decide +kernel
theorem dX9_hasLetter_23 : decode cX9_hasLetter 23 = .ok (.iconst 0, 1) := by decide +kernel
theorem dX9_hasLetter_24 : decode cX9_hasLetter 24 = .ok (.ireturn, 1) := by decide +kernel
theorem dX9_touches_0 : decode cX9_touches 0 = .ok (.aload_n 0, 1) := by decide +kernel
theorem dX9_touches_1 : decode cX9_touches 1 = .ok (.iload_n 1, 1) := by decide +kernel
theorem dX9_touches_2 : decode cX9_touches 2 = .ok (.iconst 1, 1) := by decide +kernel
theorem dX9_touches_3 : decode cX9_touches 3 = .ok (.isub, 1) := by decide +kernel
theorem dX9_touches_4 : decode cX9_touches 4 = .ok (.iload_n 2, 1) := by decide +kernel
theorem dX9_touches_5 : decode cX9_touches 5 = .ok (.invokevirtual 405, 3) := by decide +kernel
theorem dX9_touches_8 : decode cX9_touches 8 = .ok (.ifCond .ne 36, 3) := by decide +kernel
theorem dX9_touches_11 : decode cX9_touches 11 = .ok (.aload_n 0, 1) := by decide +kernel
theorem dX9_touches_12 : decode cX9_touches 12 = .ok (.iload_n 1, 1) := by decide +kernel
theorem dX9_touches_13 : decode cX9_touches 13 = .ok (.iconst 1, 1) := by decide +kernel
theorem dX9_touches_14 : decode cX9_touches 14 = .ok (.iadd, 1) := by decide +kernel
theorem dX9_touches_15 : decode cX9_touches 15 = .ok (.iload_n 2, 1) := by decide +kernel
theorem dX9_touches_16 : decode cX9_touches 16 = .ok (.invokevirtual 405, 3) := by decide +kernel
theorem dX9_touches_19 : decode cX9_touches 19 = .ok (.ifCond .ne 25, 3) := by decide +kernel
theorem dX9_touches_22 : decode cX9_touches 22 = .ok (.aload_n 0, 1) := by decide +kernel
theorem dX9_touches_23 : decode cX9_touches 23 = .ok (.iload_n 1, 1) := by decide +kernel
theorem dX9_touches_24 : decode cX9_touches 24 = .ok (.iload_n 2, 1) := by decide +kernel
theorem dX9_touches_25 : decode cX9_touches 25 = .ok (.iconst 1, 1) := by decide +kernel
theorem dX9_touches_26 : decode cX9_touches 26 = .ok (.isub, 1) := by decide +kernel
theorem dX9_touches_27 : decode cX9_touches 27 = .ok (.invokevirtual 405, 3) := by decide +kernel
theorem dX9_touches_30 : decode cX9_touches 30 = .ok (.ifCond .ne 14, 3) := by decide +kernel
theorem dX9_touches_33 : decode cX9_touches 33 = .ok (.aload_n 0, 1) := by decide +kernel
theorem dX9_touches_34 : decode cX9_touches 34 = .ok (.iload_n 1, 1) := by decide +kernel
theorem dX9_touches_35 : decode cX9_touches 35 = .ok (.iload_n 2, 1) := by decide +kernel
theorem dX9_touches_36 : decode cX9_touches 36 = .ok (.iconst 1, 1) := by decide +kernel
theorem dX9_touches_37 : decode cX9_touches 37 = .ok (.iadd, 1) := by decide +kernel
theorem dX9_touches_38 : decode cX9_touches 38 = .ok (.invokevirtual 405, 3) := by decide +kernel
theorem dX9_touches_41 : decode cX9_touches 41 = .ok (.ifCond .eq 7, 3) := by decide +kernel
theorem dX9_touches_44 : decode cX9_touches 44 = .ok (.iconst 1, 1) := by decide +kernel
theorem dX9_touches_45 : decode cX9_touches 45 = .ok (.goto 4, 3) := by decide +kernel
theorem dX9_touches_48 : decode cX9_touches 48 = .ok (.iconst 0, 1) := by decide +kernel
theorem dX9_touches_49 : decode cX9_touches 49 = .ok (.ireturn, 1) := by decide +kernel
theorem dX9_touching_0 : decode cX9_touching 0 = .ok (.aload_n 0, 1) := by decide +kernel
theorem dX9_touching_1 : decode cX9_touching 1 = .ok (.iconst 0, 1) := by decide +kernel
theorem dX9_touching_2 : decode cX9_touching 2 = .ok (.putfield 3, 3) := by decide +kernel
theorem dX9_touching_5 : decode cX9_touching 5 = .ok (.aload_n 0, 1) := by decide +kernel
theorem dX9_touching_6 : decode cX9_touching 6 = .ok (.invokevirtual 179, 3) := by decide +kernel
theorem dX9_touching_9 : decode cX9_touching 9 = .ok (.istore_n 1, 1) := by decide +kernel
theorem dX9_touching_10 : decode cX9_touching 10 = .ok (.iconst 0, 1) := by decide +kernel
theorem dX9_touching_11 : decode cX9_touching 11 = .ok (.istore_n 2, 1) := by decide +kernel
theorem dX9_touching_12 : decode cX9_touching 12 = .ok (.iconst 0, 1) := by decide +kernel
theorem dX9_touching_13 : decode cX9_touching 13 = .ok (.istore_n 3, 1) := by decide +kernel
theorem dX9_touching_14 : decode cX9_touching 14 = .ok (.iload_n 3, 1) := by decide +kernel
theorem dX9_touching_15 : decode cX9_touching 15 = .ok (.aload_n 0, 1) := by decide +kernel
theorem dX9_touching_16 : decode cX9_touching 16 = .ok (.invokevirtual 79, 3) := by decide +kernel
theorem dX9_touching_19 : decode cX9_touching 19 = .ok (.if_icmp .ge 55, 3) := by decide +kernel
theorem dX9_touching_22 : decode cX9_touching 22 = .ok (.iconst 0, 1) := by decide +kernel
theorem dX9_touching_23 : decode cX9_touching 23 = .ok (.istore 4, 2) := by decide +kernel
theorem dX9_touching_25 : decode cX9_touching 25 = .ok (.iload 4, 2) := by decide +kernel
theorem dX9_touching_27 : decode cX9_touching 27 = .ok (.aload_n 0, 1) := by decide +kernel
theorem dX9_touching_28 : decode cX9_touching 28 = .ok (.invokevirtual 71, 3) := by decide +kernel
theorem dX9_touching_31 : decode cX9_touching 31 = .ok (.if_icmp .ge 37, 3) := by decide +kernel
theorem dX9_touching_34 : decode cX9_touching 34 = .ok (.iload_n 2, 1) := by decide +kernel
theorem dX9_touching_35 : decode cX9_touching 35 = .ok (.aload_n 0, 1) := by decide +kernel
theorem dX9_touching_36 : decode cX9_touching 36 = .ok (.iload 4, 2) := by decide +kernel
theorem dX9_touching_38 : decode cX9_touching 38 = .ok (.iload_n 3, 1) := by decide +kernel
theorem dX9_touching_39 : decode cX9_touching 39 = .ok (.invokevirtual 93, 3) := by decide +kernel
theorem dX9_touching_42 : decode cX9_touching 42 = .ok (.ifCond .eq 17, 3) := by decide +kernel
theorem dX9_touching_45 : decode cX9_touching 45 = .ok (.aload_n 0, 1) := by decide +kernel
theorem dX9_touching_46 : decode cX9_touching 46 = .ok (.iload 4, 2) := by decide +kernel
theorem dX9_touching_48 : decode cX9_touching 48 = .ok (.iload_n 3, 1) := by decide +kernel
theorem dX9_touching_49 : decode cX9_touching 49 = .ok (.invokevirtual 408, 3) := by decide +kernel
theorem dX9_touching_52 : decode cX9_touching 52 = .ok (.ifCond .eq 7, 3) := by decide +kernel
theorem dX9_touching_55 : decode cX9_touching 55 = .ok (.iconst 1, 1) := by decide +kernel
theorem dX9_touching_56 : decode cX9_touching 56 = .ok (.goto 4, 3) := by decide +kernel
theorem dX9_touching_59 : decode cX9_touching 59 = .ok (.iconst 0, 1) := by decide +kernel
theorem dX9_touching_60 : decode cX9_touching 60 = .ok (.iadd, 1) := by decide +kernel
theorem dX9_touching_61 : decode cX9_touching 61 = .ok (.istore_n 2, 1) := by decide +kernel
theorem dX9_touching_62 : decode cX9_touching 62 = .ok (.iinc 4 1, 3) := by decide +kernel
theorem dX9_touching_65 : decode cX9_touching 65 = .ok (.goto (-40), 3) := by decide +kernel
theorem dX9_touching_68 : decode cX9_touching 68 = .ok (.iinc 3 1, 3) := by decide +kernel
theorem dX9_touching_71 : decode cX9_touching 71 = .ok (.goto (-57), 3) := by decide +kernel
theorem dX9_touching_74 : decode cX9_touching 74 = .ok (.iload_n 2, 1) := by decide +kernel
theorem dX9_touching_75 : decode cX9_touching 75 = .ok (.ireturn, 1) := by decide +kernel
theorem dX9_dear_0 : decode cX9_dear 0 = .ok (.aload_n 0, 1) := by decide +kernel
theorem dX9_dear_1 : decode cX9_dear 1 = .ok (.iconst 0, 1) := by decide +kernel
theorem dX9_dear_2 : decode cX9_dear 2 = .ok (.putfield 3, 3) := by decide +kernel
theorem dX9_dear_5 : decode cX9_dear 5 = .ok (.aload_n 0, 1) := by decide +kernel
theorem dX9_dear_6 : decode cX9_dear 6 = .ok (.invokevirtual 179, 3) := by decide +kernel
theorem dX9_dear_9 : decode cX9_dear 9 = .ok (.istore_n 1, 1) := by decide +kernel
theorem dX9_dear_10 : decode cX9_dear 10 = .ok (.iconst 0, 1) := by decide +kernel
theorem dX9_dear_11 : decode cX9_dear 11 = .ok (.istore_n 2, 1) := by decide +kernel
theorem dX9_dear_12 : decode cX9_dear 12 = .ok (.iconst 0, 1) := by decide +kernel
theorem dX9_dear_13 : decode cX9_dear 13 = .ok (.istore_n 3, 1) := by decide +kernel
theorem dX9_dear_14 : decode cX9_dear 14 = .ok (.iload_n 3, 1) := by decide +kernel
theorem dX9_dear_15 : decode cX9_dear 15 = .ok (.iload_n 1, 1) := by decide +kernel
theorem dX9_dear_16 : decode cX9_dear 16 = .ok (.if_icmp .ge 49, 3) := by decide +kernel
theorem dX9_dear_19 : decode cX9_dear 19 = .ok (.iconst 0, 1) := by decide +kernel
theorem dX9_dear_20 : decode cX9_dear 20 = .ok (.istore 4, 2) := by decide +kernel
theorem dX9_dear_22 : decode cX9_dear 22 = .ok (.iload 4, 2) := by decide +kernel
theorem dX9_dear_24 : decode cX9_dear 24 = .ok (.aload_n 0, 1) := by decide +kernel
theorem dX9_dear_25 : decode cX9_dear 25 = .ok (.iload_n 3, 1) := by decide +kernel
theorem dX9_dear_26 : decode cX9_dear 26 = .ok (.invokevirtual 106, 3) := by decide +kernel
theorem dX9_dear_29 : decode cX9_dear 29 = .ok (.if_icmp .ge 30, 3) := by decide +kernel
theorem dX9_dear_32 : decode cX9_dear 32 = .ok (.iload_n 2, 1) := by decide +kernel
theorem dX9_dear_33 : decode cX9_dear 33 = .ok (.aload_n 0, 1) := by decide +kernel
theorem dX9_dear_34 : decode cX9_dear 34 = .ok (.iload_n 3, 1) := by decide +kernel
theorem dX9_dear_35 : decode cX9_dear 35 = .ok (.iload 4, 2) := by decide +kernel
theorem dX9_dear_37 : decode cX9_dear 37 = .ok (.invokevirtual 142, 3) := by decide +kernel
theorem dX9_dear_40 : decode cX9_dear 40 = .ok (.aload_n 0, 1) := by decide +kernel
theorem dX9_dear_41 : decode cX9_dear 41 = .ok (.iload_n 3, 1) := by decide +kernel
theorem dX9_dear_42 : decode cX9_dear 42 = .ok (.iload 4, 2) := by decide +kernel
theorem dX9_dear_44 : decode cX9_dear 44 = .ok (.invokevirtual 132, 3) := by decide +kernel
theorem dX9_dear_47 : decode cX9_dear 47 = .ok (.invokestatic 136, 3) := by decide +kernel
theorem dX9_dear_50 : decode cX9_dear 50 = .ok (.isub, 1) := by decide +kernel
theorem dX9_dear_51 : decode cX9_dear 51 = .ok (.iadd, 1) := by decide +kernel
theorem dX9_dear_52 : decode cX9_dear 52 = .ok (.istore_n 2, 1) := by decide +kernel
theorem dX9_dear_53 : decode cX9_dear 53 = .ok (.iinc 4 1, 3) := by decide +kernel
theorem dX9_dear_56 : decode cX9_dear 56 = .ok (.goto (-34), 3) := by decide +kernel
theorem dX9_dear_59 : decode cX9_dear 59 = .ok (.iinc 3 1, 3) := by decide +kernel
theorem dX9_dear_62 : decode cX9_dear 62 = .ok (.goto (-48), 3) := by decide +kernel
theorem dX9_dear_65 : decode cX9_dear 65 = .ok (.iload_n 2, 1) := by decide +kernel
theorem dX9_dear_66 : decode cX9_dear 66 = .ok (.ireturn, 1) := by decide +kernel
theorem dX9_carvedShare_0 : decode cX9_carvedShare 0 = .ok (.aload_n 0, 1) := by decide +kernel
theorem dX9_carvedShare_1 : decode cX9_carvedShare 1 = .ok (.iconst 0, 1) := by decide +kernel
theorem dX9_carvedShare_2 : decode cX9_carvedShare 2 = .ok (.putfield 3, 3) := by decide +kernel
theorem dX9_carvedShare_5 : decode cX9_carvedShare 5 = .ok (.aload_n 0, 1) := by decide +kernel
theorem dX9_carvedShare_6 : decode cX9_carvedShare 6 = .ok (.invokevirtual 179, 3) := by decide +kernel
theorem dX9_carvedShare_9 : decode cX9_carvedShare 9 = .ok (.istore_n 1, 1) := by decide +kernel
theorem dX9_carvedShare_10 : decode cX9_carvedShare 10 = .ok (.aload_n 0, 1) := by decide +kernel
theorem dX9_carvedShare_11 : decode cX9_carvedShare 11 = .ok (.invokevirtual 341, 3) := by decide +kernel
theorem dX9_carvedShare_14 : decode cX9_carvedShare 14 = .ok (.ifCond .ne 7, 3) := by decide +kernel
theorem dX9_carvedShare_17 : decode cX9_carvedShare 17 = .ok (.fconst 1, 1) := by decide +kernel
theorem dX9_carvedShare_18 : decode cX9_carvedShare 18 = .ok (.goto 17, 3) := by decide +kernel
theorem dX9_carvedShare_21 : decode cX9_carvedShare 21 = .ok (.aload_n 0, 1) := by decide +kernel
theorem dX9_carvedShare_22 : decode cX9_carvedShare 22 = .ok (.getfield 17, 3) := by decide +kernel
theorem dX9_carvedShare_25 : decode cX9_carvedShare 25 = .ok (.bipush 8, 2) := by decide +kernel
theorem dX9_carvedShare_27 : decode cX9_carvedShare 27 = .ok (.iaload, 1) := by decide +kernel
theorem dX9_carvedShare_28 : decode cX9_carvedShare 28 = .ok (.i2f, 1) := by decide +kernel
theorem dX9_carvedShare_29 : decode cX9_carvedShare 29 = .ok (.aload_n 0, 1) := by decide +kernel
theorem dX9_carvedShare_30 : decode cX9_carvedShare 30 = .ok (.invokevirtual 341, 3) := by decide +kernel
theorem dX9_carvedShare_33 : decode cX9_carvedShare 33 = .ok (.i2f, 1) := by decide +kernel
theorem dX9_carvedShare_34 : decode cX9_carvedShare 34 = .ok (.fdiv, 1) := by decide +kernel
theorem dX9_carvedShare_35 : decode cX9_carvedShare 35 = .ok (.freturn, 1) := by decide +kernel
theorem dX9_meanStrokes_0 : decode cX9_meanStrokes 0 = .ok (.aload_n 0, 1) := by decide +kernel
theorem dX9_meanStrokes_1 : decode cX9_meanStrokes 1 = .ok (.iconst 0, 1) := by decide +kernel
theorem dX9_meanStrokes_2 : decode cX9_meanStrokes 2 = .ok (.putfield 3, 3) := by decide +kernel
theorem dX9_meanStrokes_5 : decode cX9_meanStrokes 5 = .ok (.aload_n 0, 1) := by decide +kernel
theorem dX9_meanStrokes_6 : decode cX9_meanStrokes 6 = .ok (.invokevirtual 179, 3) := by decide +kernel
theorem dX9_meanStrokes_9 : decode cX9_meanStrokes 9 = .ok (.istore_n 1, 1) := by decide +kernel
theorem dX9_meanStrokes_10 : decode cX9_meanStrokes 10 = .ok (.aload_n 0, 1) := by decide +kernel
theorem dX9_meanStrokes_11 : decode cX9_meanStrokes 11 = .ok (.invokevirtual 341, 3) := by decide +kernel
theorem dX9_meanStrokes_14 : decode cX9_meanStrokes 14 = .ok (.ifCond .ne 7, 3) := by decide +kernel
theorem dX9_meanStrokes_17 : decode cX9_meanStrokes 17 = .ok (.dconst 0, 1) := by decide +kernel
theorem dX9_meanStrokes_18 : decode cX9_meanStrokes 18 = .ok (.goto 15, 3) := by decide +kernel
theorem dX9_meanStrokes_21 : decode cX9_meanStrokes 21 = .ok (.aload_n 0, 1) := by decide +kernel
theorem dX9_meanStrokes_22 : decode cX9_meanStrokes 22 = .ok (.iconst 0, 1) := by decide +kernel
theorem dX9_meanStrokes_23 : decode cX9_meanStrokes 23 = .ok (.invokevirtual 371, 3) := by decide +kernel
theorem dX9_meanStrokes_26 : decode cX9_meanStrokes 26 = .ok (.i2d, 1) := by decide +kernel
theorem dX9_meanStrokes_27 : decode cX9_meanStrokes 27 = .ok (.aload_n 0, 1) := by decide +kernel
theorem dX9_meanStrokes_28 : decode cX9_meanStrokes 28 = .ok (.invokevirtual 341, 3) := by decide +kernel
theorem dX9_meanStrokes_31 : decode cX9_meanStrokes 31 = .ok (.i2d, 1) := by decide +kernel
theorem dX9_meanStrokes_32 : decode cX9_meanStrokes 32 = .ok (.ddiv, 1) := by decide +kernel
theorem dX9_meanStrokes_33 : decode cX9_meanStrokes 33 = .ok (.dreturn, 1) := by decide +kernel
theorem dX9_density_0 : decode cX9_density 0 = .ok (.aload_n 0, 1) := by decide +kernel
theorem dX9_density_1 : decode cX9_density 1 = .ok (.iconst 0, 1) := by decide +kernel
theorem dX9_density_2 : decode cX9_density 2 = .ok (.putfield 3, 3) := by decide +kernel
theorem dX9_density_5 : decode cX9_density 5 = .ok (.aload_n 0, 1) := by decide +kernel
theorem dX9_density_6 : decode cX9_density 6 = .ok (.invokevirtual 179, 3) := by decide +kernel
theorem dX9_density_9 : decode cX9_density 9 = .ok (.istore_n 1, 1) := by decide +kernel
theorem dX9_density_10 : decode cX9_density 10 = .ok (.aload_n 0, 1) := by decide +kernel
theorem dX9_density_11 : decode cX9_density 11 = .ok (.invokevirtual 71, 3) := by decide +kernel
theorem dX9_density_14 : decode cX9_density 14 = .ok (.aload_n 0, 1) := by decide +kernel
theorem dX9_density_15 : decode cX9_density 15 = .ok (.invokevirtual 79, 3) := by decide +kernel
theorem dX9_density_18 : decode cX9_density 18 = .ok (.imul, 1) := by decide +kernel
theorem dX9_density_19 : decode cX9_density 19 = .ok (.aload_n 0, 1) := by decide +kernel
theorem dX9_density_20 : decode cX9_density 20 = .ok (.invokevirtual 271, 3) := by decide +kernel
theorem dX9_density_23 : decode cX9_density 23 = .ok (.isub, 1) := by decide +kernel
theorem dX9_density_24 : decode cX9_density 24 = .ok (.istore_n 2, 1) := by decide +kernel
theorem dX9_density_25 : decode cX9_density 25 = .ok (.iload_n 2, 1) := by decide +kernel
theorem dX9_density_26 : decode cX9_density 26 = .ok (.ifCond .ne 7, 3) := by decide +kernel
theorem dX9_density_29 : decode cX9_density 29 = .ok (.dconst 0, 1) := by decide +kernel
theorem dX9_density_30 : decode cX9_density 30 = .ok (.goto 11, 3) := by decide +kernel
theorem dX9_density_33 : decode cX9_density 33 = .ok (.aload_n 0, 1) := by decide +kernel
theorem dX9_density_34 : decode cX9_density 34 = .ok (.invokevirtual 341, 3) := by decide +kernel
theorem dX9_density_37 : decode cX9_density 37 = .ok (.i2d, 1) := by decide +kernel
theorem dX9_density_38 : decode cX9_density 38 = .ok (.iload_n 2, 1) := by decide +kernel
theorem dX9_density_39 : decode cX9_density 39 = .ok (.i2d, 1) := by decide +kernel
theorem dX9_density_40 : decode cX9_density 40 = .ok (.ddiv, 1) := by decide +kernel
theorem dX9_density_41 : decode cX9_density 41 = .ok (.dreturn, 1) := by decide +kernel
theorem dX9_stays_0 : decode cX9_stays 0 = .ok (.aload_n 0, 1) := by decide +kernel
theorem dX9_stays_1 : decode cX9_stays 1 = .ok (.invokevirtual 411, 3) := by decide +kernel
theorem dX9_stays_4 : decode cX9_stays 4 = .ok (.ifCond .eq 13, 3) := by decide +kernel
theorem dX9_stays_7 : decode cX9_stays 7 = .ok (.aload_n 0, 1) := by decide +kernel
theorem dX9_stays_8 : decode cX9_stays 8 = .ok (.aload_n 0, 1) := by decide +kernel
theorem dX9_stays_9 : decode cX9_stays 9 = .ok (.getfield 33, 3) := by decide +kernel
theorem dX9_stays_12 : decode cX9_stays 12 = .ok (.invokevirtual 414, 3) := by decide +kernel
theorem dX9_stays_15 : decode cX9_stays 15 = .ok (.iconst 1, 1) := by decide +kernel
theorem dX9_stays_16 : decode cX9_stays 16 = .ok (.ireturn, 1) := by decide +kernel
theorem dX9_stays_17 : decode cX9_stays 17 = .ok (.aload_n 0, 1) := by decide +kernel
theorem dX9_stays_18 : decode cX9_stays 18 = .ok (.iconst 0, 1) := by decide +kernel
theorem dX9_stays_19 : decode cX9_stays 19 = .ok (.invokevirtual 388, 3) := by decide +kernel
theorem dX9_stays_22 : decode cX9_stays 22 = .ok (.istore_n 1, 1) := by decide +kernel
theorem dX9_stays_23 : decode cX9_stays 23 = .ok (.iconst 0, 1) := by decide +kernel
theorem dX9_stays_24 : decode cX9_stays 24 = .ok (.ireturn, 1) := by decide +kernel
theorem dX9_beginChange_0 : decode cX9_beginChange 0 = .ok (.aload_n 0, 1) := by decide +kernel
theorem dX9_beginChange_1 : decode cX9_beginChange 1 = .ok (.invokevirtual 418, 3) := by decide +kernel
theorem dX9_beginChange_4 : decode cX9_beginChange 4 = .ok (.aload_n 0, 1) := by decide +kernel
theorem dX9_beginChange_5 : decode cX9_beginChange 5 = .ok (.invokevirtual 385, 3) := by decide +kernel
theorem dX9_beginChange_8 : decode cX9_beginChange 8 = .ok (.return_, 1) := by decide +kernel
theorem dX9_addPart_0 : decode cX9_addPart 0 = .ok (.iload_n 1, 1) := by decide +kernel
theorem dX9_addPart_1 : decode cX9_addPart 1 = .ok (.i2l, 1) := by decide +kernel
theorem dX9_addPart_2 : decode cX9_addPart 2 = .ok (.lconst 0, 1) := by decide +kernel
theorem dX9_addPart_3 : decode cX9_addPart 3 = .ok (.ldc2_w 421, 3) := by decide +kernel
theorem dX9_addPart_6 : decode cX9_addPart 6 = .ok (.invokestatic 75, 3) := by decide +kernel
theorem dX9_addPart_9 : decode cX9_addPart 9 = .ok (.istore_n 2, 1) := by decide +kernel
theorem dX9_addPart_10 : decode cX9_addPart 10 = .ok (.aload_n 0, 1) := by decide +kernel
theorem dX9_addPart_11 : decode cX9_addPart 11 = .ok (.getfield 198, 3) := by decide +kernel
theorem dX9_addPart_14 : decode cX9_addPart 14 = .ok (.istore_n 3, 1) := by decide +kernel
theorem dX9_addPart_15 : decode cX9_addPart 15 = .ok (.aload_n 0, 1) := by decide +kernel
theorem dX9_addPart_16 : decode cX9_addPart 16 = .ok (.getfield 52, 3) := by decide +kernel
theorem dX9_addPart_19 : decode cX9_addPart 19 = .ok (.istore 4, 2) := by decide +kernel
theorem dX9_addPart_21 : decode cX9_addPart 21 = .ok (.iconst 0, 1) := by decide +kernel
theorem dX9_addPart_22 : decode cX9_addPart 22 = .ok (.istore 5, 2) := by decide +kernel
theorem dX9_addPart_24 : decode cX9_addPart 24 = .ok (.iload 5, 2) := by decide +kernel
theorem dX9_addPart_26 : decode cX9_addPart 26 = .ok (.sipush 1099, 3) := by decide +kernel
theorem dX9_addPart_29 : decode cX9_addPart 29 = .ok (.if_icmp .ge 23, 3) := by decide +kernel
theorem dX9_addPart_32 : decode cX9_addPart 32 = .ok (.aload_n 0, 1) := by decide +kernel
theorem dX9_addPart_33 : decode cX9_addPart 33 = .ok (.getfield 21, 3) := by decide +kernel
theorem dX9_addPart_36 : decode cX9_addPart 36 = .ok (.iload 5, 2) := by decide +kernel
theorem dX9_addPart_38 : decode cX9_addPart 38 = .ok (.aload_n 0, 1) := by decide +kernel
theorem dX9_addPart_39 : decode cX9_addPart 39 = .ok (.getfield 17, 3) := by decide +kernel
theorem dX9_addPart_42 : decode cX9_addPart 42 = .ok (.iload 5, 2) := by decide +kernel
theorem dX9_addPart_44 : decode cX9_addPart 44 = .ok (.iaload, 1) := by decide +kernel
theorem dX9_addPart_45 : decode cX9_addPart 45 = .ok (.iastore, 1) := by decide +kernel
theorem dX9_addPart_46 : decode cX9_addPart 46 = .ok (.iinc 5 1, 3) := by decide +kernel
theorem dX9_addPart_49 : decode cX9_addPart 49 = .ok (.goto (-25), 3) := by decide +kernel
theorem dX9_addPart_52 : decode cX9_addPart 52 = .ok (.aload_n 0, 1) := by decide +kernel
theorem dX9_addPart_53 : decode cX9_addPart 53 = .ok (.invokevirtual 324, 3) := by decide +kernel
theorem dX9_addPart_56 : decode cX9_addPart 56 = .ok (.aload_n 0, 1) := by decide +kernel
theorem dX9_addPart_57 : decode cX9_addPart 57 = .ok (.getfield 24, 3) := by decide +kernel
theorem dX9_addPart_60 : decode cX9_addPart 60 = .ok (.bipush 10, 2) := by decide +kernel
theorem dX9_addPart_62 : decode cX9_addPart 62 = .ok (.iaload, 1) := by decide +kernel
theorem dX9_addPart_63 : decode cX9_addPart 63 = .ok (.istore 5, 2) := by decide +kernel
theorem dX9_addPart_65 : decode cX9_addPart 65 = .ok (.iconst 0, 1) := by decide +kernel
theorem dX9_addPart_66 : decode cX9_addPart 66 = .ok (.istore 6, 2) := by decide +kernel
theorem dX9_addPart_68 : decode cX9_addPart 68 = .ok (.aload_n 0, 1) := by decide +kernel
theorem dX9_addPart_69 : decode cX9_addPart 69 = .ok (.invokevirtual 234, 3) := by decide +kernel
theorem dX9_addPart_72 : decode cX9_addPart 72 = .ok (.aload_n 0, 1) := by decide +kernel
theorem dX9_addPart_73 : decode cX9_addPart 73 = .ok (.aload_n 0, 1) := by decide +kernel
theorem dX9_addPart_74 : decode cX9_addPart 74 = .ok (.getfield 217, 3) := by decide +kernel
theorem dX9_addPart_77 : decode cX9_addPart 77 = .ok (.ifCond .ne 7, 3) := by decide +kernel
theorem dX9_addPart_80 : decode cX9_addPart 80 = .ok (.iconst 1, 1) := by decide +kernel
theorem dX9_addPart_81 : decode cX9_addPart 81 = .ok (.goto 4, 3) := by decide +kernel
theorem dX9_addPart_84 : decode cX9_addPart 84 = .ok (.iconst 0, 1) := by decide +kernel
theorem dX9_addPart_85 : decode cX9_addPart 85 = .ok (.iconst 1, 1) := by decide +kernel
theorem dX9_addPart_86 : decode cX9_addPart 86 = .ok (.invokevirtual 274, 3) := by decide +kernel
theorem dX9_addPart_89 : decode cX9_addPart 89 = .ok (.aload_n 0, 1) := by decide +kernel
theorem dX9_addPart_90 : decode cX9_addPart 90 = .ok (.invokevirtual 201, 3) := by decide +kernel
theorem dX9_addPart_93 : decode cX9_addPart 93 = .ok (.ifCond .eq 90, 3) := by decide +kernel
theorem dX9_addPart_96 : decode cX9_addPart 96 = .ok (.aload_n 0, 1) := by decide +kernel
theorem dX9_addPart_97 : decode cX9_addPart 97 = .ok (.getfield 217, 3) := by decide +kernel
theorem dX9_addPart_100 : decode cX9_addPart 100 = .ok (.ifCond .eq 83, 3) := by decide +kernel
theorem dX9_addPart_103 : decode cX9_addPart 103 = .ok (.aload_n 0, 1) := by decide +kernel
theorem dX9_addPart_104 : decode cX9_addPart 104 = .ok (.aload_n 0, 1) := by decide +kernel
theorem dX9_addPart_105 : decode cX9_addPart 105 = .ok (.invokevirtual 288, 3) := by decide +kernel
theorem dX9_addPart_108 : decode cX9_addPart 108 = .ok (.ifCond .eq 33, 3) := by decide +kernel
theorem dX9_addPart_111 : decode cX9_addPart 111 = .ok (.aload_n 0, 1) := by decide +kernel
theorem dX9_addPart_112 : decode cX9_addPart 112 = .ok (.getfield 211, 3) := by decide +kernel
theorem dX9_addPart_115 : decode cX9_addPart 115 = .ok (.aload_n 0, 1) := by decide +kernel
theorem dX9_addPart_116 : decode cX9_addPart 116 = .ok (.getfield 205, 3) := by decide +kernel
theorem dX9_addPart_119 : decode cX9_addPart 119 = .ok (.isub, 1) := by decide +kernel
theorem dX9_addPart_120 : decode cX9_addPart 120 = .ok (.bipush 12, 2) := by decide +kernel
theorem dX9_addPart_122 : decode cX9_addPart 122 = .ok (.if_icmp .gt 19, 3) := by decide +kernel
theorem dX9_addPart_125 : decode cX9_addPart 125 = .ok (.aload_n 0, 1) := by decide +kernel
theorem dX9_addPart_126 : decode cX9_addPart 126 = .ok (.getfield 211, 3) := by decide +kernel
theorem dX9_addPart_129 : decode cX9_addPart 129 = .ok (.aload_n 0, 1) := by decide +kernel
theorem dX9_addPart_130 : decode cX9_addPart 130 = .ok (.getfield 205, 3) := by decide +kernel
theorem dX9_addPart_133 : decode cX9_addPart 133 = .ok (.isub, 1) := by decide +kernel
theorem dX9_addPart_134 : decode cX9_addPart 134 = .ok (.aload_n 0, 1) := by decide +kernel
theorem dX9_addPart_135 : decode cX9_addPart 135 = .ok (.invokevirtual 71, 3) := by decide +kernel
theorem dX9_addPart_138 : decode cX9_addPart 138 = .ok (.if_icmp .le 7, 3) := by decide +kernel
theorem dX9_addPart_141 : decode cX9_addPart 141 = .ok (.iconst 1, 1) := by decide +kernel
theorem dX9_addPart_142 : decode cX9_addPart 142 = .ok (.goto 4, 3) := by decide +kernel
theorem dX9_addPart_145 : decode cX9_addPart 145 = .ok (.iconst 0, 1) := by decide +kernel
theorem dX9_addPart_146 : decode cX9_addPart 146 = .ok (.iconst 1, 1) := by decide +kernel
theorem dX9_addPart_147 : decode cX9_addPart 147 = .ok (.invokevirtual 274, 3) := by decide +kernel
theorem dX9_addPart_150 : decode cX9_addPart 150 = .ok (.aload_n 0, 1) := by decide +kernel
theorem dX9_addPart_151 : decode cX9_addPart 151 = .ok (.invokevirtual 201, 3) := by decide +kernel
theorem dX9_addPart_154 : decode cX9_addPart 154 = .ok (.ifCond .eq 19, 3) := by decide +kernel
theorem dX9_addPart_157 : decode cX9_addPart 157 = .ok (.aload_n 0, 1) := by decide +kernel
theorem dX9_addPart_158 : decode cX9_addPart 158 = .ok (.getfield 24, 3) := by decide +kernel
theorem dX9_addPart_161 : decode cX9_addPart 161 = .ok (.bipush 10, 2) := by decide +kernel
theorem dX9_addPart_163 : decode cX9_addPart 163 = .ok (.iaload, 1) := by decide +kernel
theorem dX9_addPart_164 : decode cX9_addPart 164 = .ok (.bipush 60, 2) := by decide +kernel
theorem dX9_addPart_166 : decode cX9_addPart 166 = .ok (.if_icmp .ge 7, 3) := by decide +kernel
theorem dX9_addPart_169 : decode cX9_addPart 169 = .ok (.aload_n 0, 1) := by decide +kernel
theorem dX9_addPart_170 : decode cX9_addPart 170 = .ok (.invokevirtual 291, 3) := by decide +kernel
theorem dX9_addPart_173 : decode cX9_addPart 173 = .ok (.iinc 6 1, 3) := by decide +kernel
theorem dX9_addPart_176 : decode cX9_addPart 176 = .ok (.aload_n 0, 1) := by decide +kernel
theorem dX9_addPart_177 : decode cX9_addPart 177 = .ok (.invokevirtual 252, 3) := by decide +kernel
theorem dX9_addPart_180 : decode cX9_addPart 180 = .ok (.goto (-91), 3) := by decide +kernel
theorem dX9_addPart_183 : decode cX9_addPart 183 = .ok (.aload_n 0, 1) := by decide +kernel
theorem dX9_addPart_184 : decode cX9_addPart 184 = .ok (.invokevirtual 201, 3) := by decide +kernel
theorem dX9_addPart_187 : decode cX9_addPart 187 = .ok (.istore 7, 2) := by decide +kernel
theorem dX9_addPart_189 : decode cX9_addPart 189 = .ok (.aload_n 0, 1) := by decide +kernel
theorem dX9_addPart_190 : decode cX9_addPart 190 = .ok (.aload_n 0, 1) := by decide +kernel
theorem dX9_addPart_191 : decode cX9_addPart 191 = .ok (.getfield 17, 3) := by decide +kernel
theorem dX9_addPart_194 : decode cX9_addPart 194 = .ok (.putfield 24, 3) := by decide +kernel
theorem dX9_addPart_197 : decode cX9_addPart 197 = .ok (.aload_n 0, 1) := by decide +kernel
theorem dX9_addPart_198 : decode cX9_addPart 198 = .ok (.iload_n 3, 1) := by decide +kernel
theorem dX9_addPart_199 : decode cX9_addPart 199 = .ok (.putfield 198, 3) := by decide +kernel
theorem dX9_addPart_202 : decode cX9_addPart 202 = .ok (.aload_n 0, 1) := by decide +kernel
theorem dX9_addPart_203 : decode cX9_addPart 203 = .ok (.iload 4, 2) := by decide +kernel
theorem dX9_addPart_205 : decode cX9_addPart 205 = .ok (.putfield 52, 3) := by decide +kernel
theorem dX9_addPart_208 : decode cX9_addPart 208 = .ok (.aload_n 0, 1) := by decide +kernel
theorem dX9_addPart_209 : decode cX9_addPart 209 = .ok (.iload_n 2, 1) := by decide +kernel
theorem dX9_addPart_210 : decode cX9_addPart 210 = .ok (.ifCond .eq 12, 3) := by decide +kernel
theorem dX9_addPart_213 : decode cX9_addPart 213 = .ok (.iload 7, 2) := by decide +kernel
theorem dX9_addPart_215 : decode cX9_addPart 215 = .ok (.ifCond .eq 7, 3) := by decide +kernel
theorem dX9_addPart_218 : decode cX9_addPart 218 = .ok (.iconst 1, 1) := by decide +kernel
theorem dX9_addPart_219 : decode cX9_addPart 219 = .ok (.goto 4, 3) := by decide +kernel
theorem dX9_addPart_222 : decode cX9_addPart 222 = .ok (.iconst 0, 1) := by decide +kernel
theorem dX9_addPart_223 : decode cX9_addPart 223 = .ok (.aload_n 0, 1) := by decide +kernel
theorem dX9_addPart_224 : decode cX9_addPart 224 = .ok (.getfield 17, 3) := by decide +kernel
theorem dX9_addPart_227 : decode cX9_addPart 227 = .ok (.bipush 9, 2) := by decide +kernel
theorem dX9_addPart_229 : decode cX9_addPart 229 = .ok (.iaload, 1) := by decide +kernel
theorem dX9_addPart_230 : decode cX9_addPart 230 = .ok (.bipush 10, 2) := by decide +kernel
theorem dX9_addPart_232 : decode cX9_addPart 232 = .ok (.if_icmp .ge 22, 3) := by decide +kernel
theorem dX9_addPart_235 : decode cX9_addPart 235 = .ok (.aload_n 0, 1) := by decide +kernel
theorem dX9_addPart_236 : decode cX9_addPart 236 = .ok (.getfield 17, 3) := by decide +kernel
theorem dX9_addPart_239 : decode cX9_addPart 239 = .ok (.bipush 10, 2) := by decide +kernel
theorem dX9_addPart_241 : decode cX9_addPart 241 = .ok (.iaload, 1) := by decide +kernel
theorem dX9_addPart_242 : decode cX9_addPart 242 = .ok (.iload 6, 2) := by decide +kernel
theorem dX9_addPart_244 : decode cX9_addPart 244 = .ok (.iadd, 1) := by decide +kernel
theorem dX9_addPart_245 : decode cX9_addPart 245 = .ok (.bipush 60, 2) := by decide +kernel
theorem dX9_addPart_247 : decode cX9_addPart 247 = .ok (.if_icmp .gt 7, 3) := by decide +kernel
theorem dX9_addPart_250 : decode cX9_addPart 250 = .ok (.iconst 1, 1) := by decide +kernel
theorem dX9_addPart_251 : decode cX9_addPart 251 = .ok (.goto 4, 3) := by decide +kernel
theorem dX9_addPart_254 : decode cX9_addPart 254 = .ok (.iconst 0, 1) := by decide +kernel
theorem dX9_addPart_255 : decode cX9_addPart 255 = .ok (.invokevirtual 349, 3) := by decide +kernel
theorem dX9_addPart_258 : decode cX9_addPart 258 = .ok (.ifCond .ne 5, 3) := by decide +kernel
theorem dX9_addPart_261 : decode cX9_addPart 261 = .ok (.iconst 0, 1) := by decide +kernel
theorem dX9_addPart_262 : decode cX9_addPart 262 = .ok (.ireturn, 1) := by decide +kernel
theorem dX9_addPart_263 : decode cX9_addPart 263 = .ok (.aload_n 0, 1) := by decide +kernel
theorem dX9_addPart_264 : decode cX9_addPart 264 = .ok (.invokevirtual 333, 3) := by decide +kernel
theorem dX9_addPart_267 : decode cX9_addPart 267 = .ok (.aload_n 0, 1) := by decide +kernel
theorem dX9_addPart_268 : decode cX9_addPart 268 = .ok (.aload_n 0, 1) := by decide +kernel
theorem dX9_addPart_269 : decode cX9_addPart 269 = .ok (.getfield 21, 3) := by decide +kernel
theorem dX9_addPart_272 : decode cX9_addPart 272 = .ok (.putfield 24, 3) := by decide +kernel
theorem dX9_addPart_275 : decode cX9_addPart 275 = .ok (.aload_n 0, 1) := by decide +kernel
theorem dX9_addPart_276 : decode cX9_addPart 276 = .ok (.iload_n 1, 1) := by decide +kernel
theorem dX9_addPart_277 : decode cX9_addPart 277 = .ok (.iload 5, 2) := by decide +kernel
theorem dX9_addPart_279 : decode cX9_addPart 279 = .ok (.invokevirtual 297, 3) := by decide +kernel
theorem dX9_addPart_282 : decode cX9_addPart 282 = .ok (.aload_n 0, 1) := by decide +kernel
theorem dX9_addPart_283 : decode cX9_addPart 283 = .ok (.aload_n 0, 1) := by decide +kernel
theorem dX9_addPart_284 : decode cX9_addPart 284 = .ok (.getfield 17, 3) := by decide +kernel
theorem dX9_addPart_287 : decode cX9_addPart 287 = .ok (.putfield 24, 3) := by decide +kernel
theorem dX9_addPart_290 : decode cX9_addPart 290 = .ok (.aload_n 0, 1) := by decide +kernel
theorem dX9_addPart_291 : decode cX9_addPart 291 = .ok (.invokevirtual 336, 3) := by decide +kernel
theorem dX9_addPart_294 : decode cX9_addPart 294 = .ok (.aload_n 0, 1) := by decide +kernel
theorem dX9_addPart_295 : decode cX9_addPart 295 = .ok (.getfield 17, 3) := by decide +kernel
theorem dX9_addPart_298 : decode cX9_addPart 298 = .ok (.bipush 9, 2) := by decide +kernel
theorem dX9_addPart_300 : decode cX9_addPart 300 = .ok (.iaload, 1) := by decide +kernel
theorem dX9_addPart_301 : decode cX9_addPart 301 = .ok (.iconst 1, 1) := by decide +kernel
theorem dX9_addPart_302 : decode cX9_addPart 302 = .ok (.isub, 1) := by decide +kernel
theorem dX9_addPart_303 : decode cX9_addPart 303 = .ok (.ireturn, 1) := by decide +kernel
theorem dX9_dropPart_0 : decode cX9_dropPart 0 = .ok (.aload_n 0, 1) := by decide +kernel
theorem dX9_dropPart_1 : decode cX9_dropPart 1 = .ok (.aload_n 0, 1) := by decide +kernel
theorem dX9_dropPart_2 : decode cX9_dropPart 2 = .ok (.iload_n 1, 1) := by decide +kernel
theorem dX9_dropPart_3 : decode cX9_dropPart 3 = .ok (.invokevirtual 344, 3) := by decide +kernel
theorem dX9_dropPart_6 : decode cX9_dropPart 6 = .ok (.iconst 1, 1) := by decide +kernel
theorem dX9_dropPart_7 : decode cX9_dropPart 7 = .ok (.invokevirtual 349, 3) := by decide +kernel
theorem dX9_dropPart_10 : decode cX9_dropPart 10 = .ok (.ifCond .ne 5, 3) := by decide +kernel
theorem dX9_dropPart_13 : decode cX9_dropPart 13 = .ok (.iconst 0, 1) := by decide +kernel
theorem dX9_dropPart_14 : decode cX9_dropPart 14 = .ok (.ireturn, 1) := by decide +kernel
theorem dX9_dropPart_15 : decode cX9_dropPart 15 = .ok (.aload_n 0, 1) := by decide +kernel
theorem dX9_dropPart_16 : decode cX9_dropPart 16 = .ok (.invokevirtual 423, 3) := by decide +kernel
theorem dX9_dropPart_19 : decode cX9_dropPart 19 = .ok (.aload_n 0, 1) := by decide +kernel
theorem dX9_dropPart_20 : decode cX9_dropPart 20 = .ok (.iload_n 1, 1) := by decide +kernel
theorem dX9_dropPart_21 : decode cX9_dropPart 21 = .ok (.invokevirtual 171, 3) := by decide +kernel
theorem dX9_dropPart_24 : decode cX9_dropPart 24 = .ok (.aload_n 0, 1) := by decide +kernel
theorem dX9_dropPart_25 : decode cX9_dropPart 25 = .ok (.iconst 1, 1) := by decide +kernel
theorem dX9_dropPart_26 : decode cX9_dropPart 26 = .ok (.aload_n 0, 1) := by decide +kernel
theorem dX9_dropPart_27 : decode cX9_dropPart 27 = .ok (.invokevirtual 426, 3) := by decide +kernel
theorem dX9_dropPart_30 : decode cX9_dropPart 30 = .ok (.invokevirtual 349, 3) := by decide +kernel
theorem dX9_dropPart_33 : decode cX9_dropPart 33 = .ok (.ifCond .eq 10, 3) := by decide +kernel
theorem dX9_dropPart_36 : decode cX9_dropPart 36 = .ok (.aload_n 0, 1) := by decide +kernel
theorem dX9_dropPart_37 : decode cX9_dropPart 37 = .ok (.getfield 120, 3) := by decide +kernel
theorem dX9_dropPart_40 : decode cX9_dropPart 40 = .ok (.goto 4, 3) := by decide +kernel
theorem dX9_dropPart_43 : decode cX9_dropPart 43 = .ok (.iconst 0, 1) := by decide +kernel
theorem dX9_dropPart_44 : decode cX9_dropPart 44 = .ok (.ireturn, 1) := by decide +kernel
theorem dX9_movePart_0 : decode cX9_movePart 0 = .ok (.aload_n 0, 1) := by decide +kernel
theorem dX9_movePart_1 : decode cX9_movePart 1 = .ok (.aload_n 0, 1) := by decide +kernel
theorem dX9_movePart_2 : decode cX9_movePart 2 = .ok (.iload_n 1, 1) := by decide +kernel
theorem dX9_movePart_3 : decode cX9_movePart 3 = .ok (.invokevirtual 344, 3) := by decide +kernel
theorem dX9_movePart_6 : decode cX9_movePart 6 = .ok (.ifCond .eq 15, 3) := by decide +kernel
theorem dX9_movePart_9 : decode cX9_movePart 9 = .ok (.aload_n 0, 1) := by decide +kernel
theorem dX9_movePart_10 : decode cX9_movePart 10 = .ok (.iload_n 2, 1) := by decide +kernel
theorem dX9_movePart_11 : decode cX9_movePart 11 = .ok (.invokevirtual 344, 3) := by decide +kernel
theorem dX9_movePart_14 : decode cX9_movePart 14 = .ok (.ifCond .eq 7, 3) := by decide +kernel
theorem dX9_movePart_17 : decode cX9_movePart 17 = .ok (.iconst 1, 1) := by decide +kernel
theorem dX9_movePart_18 : decode cX9_movePart 18 = .ok (.goto 4, 3) := by decide +kernel
theorem dX9_movePart_21 : decode cX9_movePart 21 = .ok (.iconst 0, 1) := by decide +kernel
theorem dX9_movePart_22 : decode cX9_movePart 22 = .ok (.iconst 1, 1) := by decide +kernel
theorem dX9_movePart_23 : decode cX9_movePart 23 = .ok (.invokevirtual 349, 3) := by decide +kernel
theorem dX9_movePart_26 : decode cX9_movePart 26 = .ok (.ifCond .ne 5, 3) := by decide +kernel
theorem dX9_movePart_29 : decode cX9_movePart 29 = .ok (.iconst 0, 1) := by decide +kernel
theorem dX9_movePart_30 : decode cX9_movePart 30 = .ok (.ireturn, 1) := by decide +kernel
theorem dX9_movePart_31 : decode cX9_movePart 31 = .ok (.aload_n 0, 1) := by decide +kernel
theorem dX9_movePart_32 : decode cX9_movePart 32 = .ok (.invokevirtual 423, 3) := by decide +kernel
theorem dX9_movePart_35 : decode cX9_movePart 35 = .ok (.aload_n 0, 1) := by decide +kernel
theorem dX9_movePart_36 : decode cX9_movePart 36 = .ok (.iload_n 1, 1) := by decide +kernel
theorem dX9_movePart_37 : decode cX9_movePart 37 = .ok (.iload_n 2, 1) := by decide +kernel
theorem dX9_movePart_38 : decode cX9_movePart 38 = .ok (.invokevirtual 402, 3) := by decide +kernel
theorem dX9_movePart_41 : decode cX9_movePart 41 = .ok (.aload_n 0, 1) := by decide +kernel
theorem dX9_movePart_42 : decode cX9_movePart 42 = .ok (.iconst 1, 1) := by decide +kernel
theorem dX9_movePart_43 : decode cX9_movePart 43 = .ok (.aload_n 0, 1) := by decide +kernel
theorem dX9_movePart_44 : decode cX9_movePart 44 = .ok (.invokevirtual 426, 3) := by decide +kernel
theorem dX9_movePart_47 : decode cX9_movePart 47 = .ok (.invokevirtual 349, 3) := by decide +kernel
theorem dX9_movePart_50 : decode cX9_movePart 50 = .ok (.ifCond .eq 10, 3) := by decide +kernel
theorem dX9_movePart_53 : decode cX9_movePart 53 = .ok (.aload_n 0, 1) := by decide +kernel
theorem dX9_movePart_54 : decode cX9_movePart 54 = .ok (.getfield 120, 3) := by decide +kernel
theorem dX9_movePart_57 : decode cX9_movePart 57 = .ok (.goto 4, 3) := by decide +kernel
theorem dX9_movePart_60 : decode cX9_movePart 60 = .ok (.iconst 0, 1) := by decide +kernel
theorem dX9_movePart_61 : decode cX9_movePart 61 = .ok (.ireturn, 1) := by decide +kernel
theorem dX9_setFlaw_0 : decode cX9_setFlaw 0 = .ok (.aload_n 0, 1) := by decide +kernel
theorem dX9_setFlaw_1 : decode cX9_setFlaw 1 = .ok (.iload_n 1, 1) := by decide +kernel
theorem dX9_setFlaw_2 : decode cX9_setFlaw 2 = .ok (.iload_n 2, 1) := by decide +kernel
theorem dX9_setFlaw_3 : decode cX9_setFlaw 3 = .ok (.invokevirtual 82, 3) := by decide +kernel
theorem dX9_setFlaw_6 : decode cX9_setFlaw 6 = .ok (.istore 4, 2) := by decide +kernel
theorem dX9_setFlaw_8 : decode cX9_setFlaw 8 = .ok (.iload 4, 2) := by decide +kernel
theorem dX9_setFlaw_10 : decode cX9_setFlaw 10 = .ok (.ifCond .eq 16, 3) := by decide +kernel
theorem dX9_setFlaw_13 : decode cX9_setFlaw 13 = .ok (.aload_n 0, 1) := by decide +kernel
theorem dX9_setFlaw_14 : decode cX9_setFlaw 14 = .ok (.iload_n 1, 1) := by decide +kernel
theorem dX9_setFlaw_15 : decode cX9_setFlaw 15 = .ok (.iload_n 2, 1) := by decide +kernel
theorem dX9_setFlaw_16 : decode cX9_setFlaw 16 = .ok (.invokevirtual 93, 3) := by decide +kernel
theorem dX9_setFlaw_19 : decode cX9_setFlaw 19 = .ok (.ifCond .eq 7, 3) := by decide +kernel
theorem dX9_setFlaw_22 : decode cX9_setFlaw 22 = .ok (.iconst 1, 1) := by decide +kernel
theorem dX9_setFlaw_23 : decode cX9_setFlaw 23 = .ok (.goto 4, 3) := by decide +kernel
theorem dX9_setFlaw_26 : decode cX9_setFlaw 26 = .ok (.iconst 0, 1) := by decide +kernel
theorem dX9_setFlaw_27 : decode cX9_setFlaw 27 = .ok (.istore 5, 2) := by decide +kernel
theorem dX9_setFlaw_29 : decode cX9_setFlaw 29 = .ok (.aload_n 0, 1) := by decide +kernel
theorem dX9_setFlaw_30 : decode cX9_setFlaw 30 = .ok (.iload 4, 2) := by decide +kernel
theorem dX9_setFlaw_32 : decode cX9_setFlaw 32 = .ok (.iload 5, 2) := by decide +kernel
theorem dX9_setFlaw_34 : decode cX9_setFlaw 34 = .ok (.ifCond .ne 16, 3) := by decide +kernel
theorem dX9_setFlaw_37 : decode cX9_setFlaw 37 = .ok (.iload_n 3, 1) := by decide +kernel
theorem dX9_setFlaw_38 : decode cX9_setFlaw 38 = .ok (.ifCond .eq 12, 3) := by decide +kernel
theorem dX9_setFlaw_41 : decode cX9_setFlaw 41 = .ok (.aload_n 0, 1) := by decide +kernel
theorem dX9_setFlaw_42 : decode cX9_setFlaw 42 = .ok (.invokevirtual 271, 3) := by decide +kernel
theorem dX9_setFlaw_45 : decode cX9_setFlaw 45 = .ok (.bipush 40, 2) := by decide +kernel
theorem dX9_setFlaw_47 : decode cX9_setFlaw 47 = .ok (.if_icmp .ge 7, 3) := by decide +kernel
theorem dX9_setFlaw_50 : decode cX9_setFlaw 50 = .ok (.iconst 1, 1) := by decide +kernel
theorem dX9_setFlaw_51 : decode cX9_setFlaw 51 = .ok (.goto 4, 3) := by decide +kernel
theorem dX9_setFlaw_54 : decode cX9_setFlaw 54 = .ok (.iconst 0, 1) := by decide +kernel
theorem dX9_setFlaw_55 : decode cX9_setFlaw 55 = .ok (.invokevirtual 349, 3) := by decide +kernel
theorem dX9_setFlaw_58 : decode cX9_setFlaw 58 = .ok (.ifCond .ne 5, 3) := by decide +kernel
theorem dX9_setFlaw_61 : decode cX9_setFlaw 61 = .ok (.iconst 0, 1) := by decide +kernel
theorem dX9_setFlaw_62 : decode cX9_setFlaw 62 = .ok (.ireturn, 1) := by decide +kernel
theorem dX9_setFlaw_63 : decode cX9_setFlaw 63 = .ok (.aload_n 0, 1) := by decide +kernel
theorem dX9_setFlaw_64 : decode cX9_setFlaw 64 = .ok (.invokevirtual 423, 3) := by decide +kernel
theorem dX9_setFlaw_67 : decode cX9_setFlaw 67 = .ok (.aload_n 0, 1) := by decide +kernel
theorem dX9_setFlaw_68 : decode cX9_setFlaw 68 = .ok (.iload_n 1, 1) := by decide +kernel
theorem dX9_setFlaw_69 : decode cX9_setFlaw 69 = .ok (.iload_n 2, 1) := by decide +kernel
theorem dX9_setFlaw_70 : decode cX9_setFlaw 70 = .ok (.iload_n 3, 1) := by decide +kernel
theorem dX9_setFlaw_71 : decode cX9_setFlaw 71 = .ok (.ifCond .eq 7, 3) := by decide +kernel
theorem dX9_setFlaw_74 : decode cX9_setFlaw 74 = .ok (.iconst 1, 1) := by decide +kernel
theorem dX9_setFlaw_75 : decode cX9_setFlaw 75 = .ok (.goto 4, 3) := by decide +kernel
theorem dX9_setFlaw_78 : decode cX9_setFlaw 78 = .ok (.iconst 0, 1) := by decide +kernel
theorem dX9_setFlaw_79 : decode cX9_setFlaw 79 = .ok (.invokevirtual 175, 3) := by decide +kernel
theorem dX9_setFlaw_82 : decode cX9_setFlaw 82 = .ok (.aload_n 0, 1) := by decide +kernel
theorem dX9_setFlaw_83 : decode cX9_setFlaw 83 = .ok (.iconst 1, 1) := by decide +kernel
theorem dX9_setFlaw_84 : decode cX9_setFlaw 84 = .ok (.aload_n 0, 1) := by decide +kernel
theorem dX9_setFlaw_85 : decode cX9_setFlaw 85 = .ok (.invokevirtual 426, 3) := by decide +kernel
theorem dX9_setFlaw_88 : decode cX9_setFlaw 88 = .ok (.invokevirtual 349, 3) := by decide +kernel
theorem dX9_setFlaw_91 : decode cX9_setFlaw 91 = .ok (.ifCond .eq 12, 3) := by decide +kernel
theorem dX9_setFlaw_94 : decode cX9_setFlaw 94 = .ok (.iload 5, 2) := by decide +kernel
theorem dX9_setFlaw_96 : decode cX9_setFlaw 96 = .ok (.ifCond .eq 7, 3) := by decide +kernel
theorem dX9_setFlaw_99 : decode cX9_setFlaw 99 = .ok (.iconst 1, 1) := by decide +kernel
theorem dX9_setFlaw_100 : decode cX9_setFlaw 100 = .ok (.goto 4, 3) := by decide +kernel
theorem dX9_setFlaw_103 : decode cX9_setFlaw 103 = .ok (.iconst 0, 1) := by decide +kernel
theorem dX9_setFlaw_104 : decode cX9_setFlaw 104 = .ok (.ireturn, 1) := by decide +kernel
theorem dX9_setGap_0 : decode cX9_setGap 0 = .ok (.aload_n 0, 1) := by decide +kernel
theorem dX9_setGap_1 : decode cX9_setGap 1 = .ok (.iload_n 1, 1) := by decide +kernel
theorem dX9_setGap_2 : decode cX9_setGap 2 = .ok (.invokestatic 396, 3) := by decide +kernel
theorem dX9_setGap_5 : decode cX9_setGap 5 = .ok (.iconst 1, 1) := by decide +kernel
theorem dX9_setGap_6 : decode cX9_setGap 6 = .ok (.invokevirtual 349, 3) := by decide +kernel
theorem dX9_setGap_9 : decode cX9_setGap 9 = .ok (.ifCond .ne 5, 3) := by decide +kernel
theorem dX9_setGap_12 : decode cX9_setGap 12 = .ok (.iconst 0, 1) := by decide +kernel
theorem dX9_setGap_13 : decode cX9_setGap 13 = .ok (.ireturn, 1) := by decide +kernel
theorem dX9_setGap_14 : decode cX9_setGap 14 = .ok (.aload_n 0, 1) := by decide +kernel
theorem dX9_setGap_15 : decode cX9_setGap 15 = .ok (.invokevirtual 423, 3) := by decide +kernel
theorem dX9_setGap_18 : decode cX9_setGap 18 = .ok (.aload_n 0, 1) := by decide +kernel
theorem dX9_setGap_19 : decode cX9_setGap 19 = .ok (.getfield 17, 3) := by decide +kernel
theorem dX9_setGap_22 : decode cX9_setGap 22 = .ok (.iconst 2, 1) := by decide +kernel
theorem dX9_setGap_23 : decode cX9_setGap 23 = .ok (.iaload, 1) := by decide +kernel
theorem dX9_setGap_24 : decode cX9_setGap 24 = .ok (.istore_n 2, 1) := by decide +kernel
theorem dX9_setGap_25 : decode cX9_setGap 25 = .ok (.aload_n 0, 1) := by decide +kernel
theorem dX9_setGap_26 : decode cX9_setGap 26 = .ok (.getfield 17, 3) := by decide +kernel
theorem dX9_setGap_29 : decode cX9_setGap 29 = .ok (.iconst 2, 1) := by decide +kernel
theorem dX9_setGap_30 : decode cX9_setGap 30 = .ok (.iload_n 1, 1) := by decide +kernel
theorem dX9_setGap_31 : decode cX9_setGap 31 = .ok (.iastore, 1) := by decide +kernel
theorem dX9_setGap_32 : decode cX9_setGap 32 = .ok (.aload_n 0, 1) := by decide +kernel
theorem dX9_setGap_33 : decode cX9_setGap 33 = .ok (.iconst 1, 1) := by decide +kernel
theorem dX9_setGap_34 : decode cX9_setGap 34 = .ok (.aload_n 0, 1) := by decide +kernel
theorem dX9_setGap_35 : decode cX9_setGap 35 = .ok (.invokevirtual 426, 3) := by decide +kernel
theorem dX9_setGap_38 : decode cX9_setGap 38 = .ok (.invokevirtual 349, 3) := by decide +kernel
theorem dX9_setGap_41 : decode cX9_setGap 41 = .ok (.ifCond .eq 7, 3) := by decide +kernel
theorem dX9_setGap_44 : decode cX9_setGap 44 = .ok (.iload_n 2, 1) := by decide +kernel
theorem dX9_setGap_45 : decode cX9_setGap 45 = .ok (.goto 4, 3) := by decide +kernel
theorem dX9_setGap_48 : decode cX9_setGap 48 = .ok (.iconst 0, 1) := by decide +kernel
theorem dX9_setGap_49 : decode cX9_setGap 49 = .ok (.ireturn, 1) := by decide +kernel
theorem dX9_turnSlab_0 : decode cX9_turnSlab 0 = .ok (.aload_n 0, 1) := by decide +kernel
theorem dX9_turnSlab_1 : decode cX9_turnSlab 1 = .ok (.aload_n 0, 1) := by decide +kernel
theorem dX9_turnSlab_2 : decode cX9_turnSlab 2 = .ok (.getfield 17, 3) := by decide +kernel
theorem dX9_turnSlab_5 : decode cX9_turnSlab 5 = .ok (.bipush 8, 2) := by decide +kernel
theorem dX9_turnSlab_7 : decode cX9_turnSlab 7 = .ok (.iaload, 1) := by decide +kernel
theorem dX9_turnSlab_8 : decode cX9_turnSlab 8 = .ok (.ifCond .ne 7, 3) := by decide +kernel
theorem dX9_turnSlab_11 : decode cX9_turnSlab 11 = .ok (.iconst 1, 1) := by decide +kernel
theorem dX9_turnSlab_12 : decode cX9_turnSlab 12 = .ok (.goto 4, 3) := by decide +kernel
theorem dX9_turnSlab_15 : decode cX9_turnSlab 15 = .ok (.iconst 0, 1) := by decide +kernel
theorem dX9_turnSlab_16 : decode cX9_turnSlab 16 = .ok (.invokevirtual 191, 3) := by decide +kernel
theorem dX9_turnSlab_19 : decode cX9_turnSlab 19 = .ok (.ifCond .ne 5, 3) := by decide +kernel
theorem dX9_turnSlab_22 : decode cX9_turnSlab 22 = .ok (.iconst 0, 1) := by decide +kernel
theorem dX9_turnSlab_23 : decode cX9_turnSlab 23 = .ok (.ireturn, 1) := by decide +kernel
theorem dX9_turnSlab_24 : decode cX9_turnSlab 24 = .ok (.aload_n 0, 1) := by decide +kernel
theorem dX9_turnSlab_25 : decode cX9_turnSlab 25 = .ok (.invokevirtual 333, 3) := by decide +kernel
theorem dX9_turnSlab_28 : decode cX9_turnSlab 28 = .ok (.aload_n 0, 1) := by decide +kernel
theorem dX9_turnSlab_29 : decode cX9_turnSlab 29 = .ok (.invokevirtual 399, 3) := by decide +kernel
theorem dX9_turnSlab_32 : decode cX9_turnSlab 32 = .ok (.aload_n 0, 1) := by decide +kernel
theorem dX9_turnSlab_33 : decode cX9_turnSlab 33 = .ok (.invokevirtual 179, 3) := by decide +kernel
theorem dX9_turnSlab_36 : decode cX9_turnSlab 36 = .ok (.ireturn, 1) := by decide +kernel
theorem dX9_cutRows_0 : decode cX9_cutRows 0 = .ok (.aload_n 0, 1) := by decide +kernel
theorem dX9_cutRows_1 : decode cX9_cutRows 1 = .ok (.iload_n 1, 1) := by decide +kernel
theorem dX9_cutRows_2 : decode cX9_cutRows 2 = .ok (.i2l, 1) := by decide +kernel
theorem dX9_cutRows_3 : decode cX9_cutRows 3 = .ok (.lconst 1, 1) := by decide +kernel
theorem dX9_cutRows_4 : decode cX9_cutRows 4 = .ok (.aload_n 0, 1) := by decide +kernel
theorem dX9_cutRows_5 : decode cX9_cutRows 5 = .ok (.invokevirtual 79, 3) := by decide +kernel
theorem dX9_cutRows_8 : decode cX9_cutRows 8 = .ok (.iconst 2, 1) := by decide +kernel
theorem dX9_cutRows_9 : decode cX9_cutRows 9 = .ok (.isub, 1) := by decide +kernel
theorem dX9_cutRows_10 : decode cX9_cutRows 10 = .ok (.i2l, 1) := by decide +kernel
theorem dX9_cutRows_11 : decode cX9_cutRows 11 = .ok (.invokestatic 75, 3) := by decide +kernel
theorem dX9_cutRows_14 : decode cX9_cutRows 14 = .ok (.iload_n 2, 1) := by decide +kernel
theorem dX9_cutRows_15 : decode cX9_cutRows 15 = .ok (.ifCond .eq 13, 3) := by decide +kernel
theorem dX9_cutRows_18 : decode cX9_cutRows 18 = .ok (.aload_n 0, 1) := by decide +kernel
theorem dX9_cutRows_19 : decode cX9_cutRows 19 = .ok (.getfield 17, 3) := by decide +kernel
theorem dX9_cutRows_22 : decode cX9_cutRows 22 = .ok (.bipush 8, 2) := by decide +kernel
theorem dX9_cutRows_24 : decode cX9_cutRows 24 = .ok (.iaload, 1) := by decide +kernel
theorem dX9_cutRows_25 : decode cX9_cutRows 25 = .ok (.ifCond .ne 7, 3) := by decide +kernel
theorem dX9_cutRows_28 : decode cX9_cutRows 28 = .ok (.iconst 1, 1) := by decide +kernel
theorem dX9_cutRows_29 : decode cX9_cutRows 29 = .ok (.goto 4, 3) := by decide +kernel
theorem dX9_cutRows_32 : decode cX9_cutRows 32 = .ok (.iconst 0, 1) := by decide +kernel
theorem dX9_cutRows_33 : decode cX9_cutRows 33 = .ok (.invokevirtual 349, 3) := by decide +kernel
theorem dX9_cutRows_36 : decode cX9_cutRows 36 = .ok (.ifCond .ne 5, 3) := by decide +kernel
theorem dX9_cutRows_39 : decode cX9_cutRows 39 = .ok (.iconst 0, 1) := by decide +kernel
theorem dX9_cutRows_40 : decode cX9_cutRows 40 = .ok (.ireturn, 1) := by decide +kernel
theorem dX9_cutRows_41 : decode cX9_cutRows 41 = .ok (.aload_n 0, 1) := by decide +kernel
theorem dX9_cutRows_42 : decode cX9_cutRows 42 = .ok (.invokevirtual 423, 3) := by decide +kernel
theorem dX9_cutRows_45 : decode cX9_cutRows 45 = .ok (.aload_n 0, 1) := by decide +kernel
theorem dX9_cutRows_46 : decode cX9_cutRows 46 = .ok (.iload_n 1, 1) := by decide +kernel
theorem dX9_cutRows_47 : decode cX9_cutRows 47 = .ok (.iload_n 2, 1) := by decide +kernel
theorem dX9_cutRows_48 : decode cX9_cutRows 48 = .ok (.invokevirtual 429, 3) := by decide +kernel
theorem dX9_cutRows_51 : decode cX9_cutRows 51 = .ok (.aload_n 0, 1) := by decide +kernel
theorem dX9_cutRows_52 : decode cX9_cutRows 52 = .ok (.iconst 1, 1) := by decide +kernel
theorem dX9_cutRows_53 : decode cX9_cutRows 53 = .ok (.aload_n 0, 1) := by decide +kernel
theorem dX9_cutRows_54 : decode cX9_cutRows 54 = .ok (.invokevirtual 426, 3) := by decide +kernel
theorem dX9_cutRows_57 : decode cX9_cutRows 57 = .ok (.invokevirtual 349, 3) := by decide +kernel
theorem dX9_cutRows_60 : decode cX9_cutRows 60 = .ok (.ifCond .eq 10, 3) := by decide +kernel
theorem dX9_cutRows_63 : decode cX9_cutRows 63 = .ok (.aload_n 0, 1) := by decide +kernel
theorem dX9_cutRows_64 : decode cX9_cutRows 64 = .ok (.getfield 120, 3) := by decide +kernel
theorem dX9_cutRows_67 : decode cX9_cutRows 67 = .ok (.goto 4, 3) := by decide +kernel
theorem dX9_cutRows_70 : decode cX9_cutRows 70 = .ok (.iconst 0, 1) := by decide +kernel
theorem dX9_cutRows_71 : decode cX9_cutRows 71 = .ok (.ireturn, 1) := by decide +kernel
theorem dX9_carve_0 : decode cX9_carve 0 = .ok (.aload_n 0, 1) := by decide +kernel
theorem dX9_carve_1 : decode cX9_carve 1 = .ok (.iload_n 1, 1) := by decide +kernel
theorem dX9_carve_2 : decode cX9_carve 2 = .ok (.i2l, 1) := by decide +kernel
theorem dX9_carve_3 : decode cX9_carve 3 = .ok (.lconst 1, 1) := by decide +kernel
theorem dX9_carve_4 : decode cX9_carve 4 = .ok (.ldc2_w 433, 3) := by decide +kernel
theorem dX9_carve_7 : decode cX9_carve 7 = .ok (.invokestatic 75, 3) := by decide +kernel
theorem dX9_carve_10 : decode cX9_carve 10 = .ok (.invokevirtual 191, 3) := by decide +kernel
theorem dX9_carve_13 : decode cX9_carve 13 = .ok (.ifCond .ne 5, 3) := by decide +kernel
theorem dX9_carve_16 : decode cX9_carve 16 = .ok (.iconst 0, 1) := by decide +kernel
theorem dX9_carve_17 : decode cX9_carve 17 = .ok (.ireturn, 1) := by decide +kernel
theorem dX9_carve_18 : decode cX9_carve 18 = .ok (.aload_n 0, 1) := by decide +kernel
theorem dX9_carve_19 : decode cX9_carve 19 = .ok (.invokevirtual 333, 3) := by decide +kernel
theorem dX9_carve_22 : decode cX9_carve 22 = .ok (.aload_n 0, 1) := by decide +kernel
theorem dX9_carve_23 : decode cX9_carve 23 = .ok (.invokevirtual 179, 3) := by decide +kernel
theorem dX9_carve_26 : decode cX9_carve 26 = .ok (.istore_n 2, 1) := by decide +kernel
theorem dX9_carve_27 : decode cX9_carve 27 = .ok (.aload_n 0, 1) := by decide +kernel
theorem dX9_carve_28 : decode cX9_carve 28 = .ok (.iload_n 1, 1) := by decide +kernel
theorem dX9_carve_29 : decode cX9_carve 29 = .ok (.invokevirtual 374, 3) := by decide +kernel
theorem dX9_carve_32 : decode cX9_carve 32 = .ok (.istore_n 3, 1) := by decide +kernel
theorem dX9_carve_33 : decode cX9_carve 33 = .ok (.aload_n 0, 1) := by decide +kernel
theorem dX9_carve_34 : decode cX9_carve 34 = .ok (.aload_n 0, 1) := by decide +kernel
theorem dX9_carve_35 : decode cX9_carve 35 = .ok (.getfield 17, 3) := by decide +kernel
theorem dX9_carve_38 : decode cX9_carve 38 = .ok (.bipush 8, 2) := by decide +kernel
theorem dX9_carve_40 : decode cX9_carve 40 = .ok (.iaload, 1) := by decide +kernel
theorem dX9_carve_41 : decode cX9_carve 41 = .ok (.iload_n 3, 1) := by decide +kernel
theorem dX9_carve_42 : decode cX9_carve 42 = .ok (.invokevirtual 377, 3) := by decide +kernel
theorem dX9_carve_45 : decode cX9_carve 45 = .ok (.istore 4, 2) := by decide +kernel
theorem dX9_carve_47 : decode cX9_carve 47 = .ok (.aload_n 0, 1) := by decide +kernel
theorem dX9_carve_48 : decode cX9_carve 48 = .ok (.getfield 17, 3) := by decide +kernel
theorem dX9_carve_51 : decode cX9_carve 51 = .ok (.bipush 8, 2) := by decide +kernel
theorem dX9_carve_53 : decode cX9_carve 53 = .ok (.iload_n 3, 1) := by decide +kernel
theorem dX9_carve_54 : decode cX9_carve 54 = .ok (.iastore, 1) := by decide +kernel
theorem dX9_carve_55 : decode cX9_carve 55 = .ok (.aload_n 0, 1) := by decide +kernel
theorem dX9_carve_56 : decode cX9_carve 56 = .ok (.getfield 17, 3) := by decide +kernel
theorem dX9_carve_59 : decode cX9_carve 59 = .ok (.iconst 5, 1) := by decide +kernel
theorem dX9_carve_60 : decode cX9_carve 60 = .ok (.aload_n 0, 1) := by decide +kernel
theorem dX9_carve_61 : decode cX9_carve 61 = .ok (.getfield 154, 3) := by decide +kernel
theorem dX9_carve_64 : decode cX9_carve 64 = .ok (.iastore, 1) := by decide +kernel
theorem dX9_carve_65 : decode cX9_carve 65 = .ok (.aload_n 0, 1) := by decide +kernel
theorem dX9_carve_66 : decode cX9_carve 66 = .ok (.getfield 17, 3) := by decide +kernel
theorem dX9_carve_69 : decode cX9_carve 69 = .ok (.bipush 7, 2) := by decide +kernel
theorem dX9_carve_71 : decode cX9_carve 71 = .ok (.dup2, 1) := by decide +kernel
theorem dX9_carve_72 : decode cX9_carve 72 = .ok (.iaload, 1) := by decide +kernel
theorem dX9_carve_73 : decode cX9_carve 73 = .ok (.aload_n 0, 1) := by decide +kernel
theorem dX9_carve_74 : decode cX9_carve 74 = .ok (.getfield 157, 3) := by decide +kernel
theorem dX9_carve_77 : decode cX9_carve 77 = .ok (.iadd, 1) := by decide +kernel
theorem dX9_carve_78 : decode cX9_carve 78 = .ok (.iastore, 1) := by decide +kernel
theorem dX9_carve_79 : decode cX9_carve 79 = .ok (.aload_n 0, 1) := by decide +kernel
theorem dX9_carve_80 : decode cX9_carve 80 = .ok (.getfield 17, 3) := by decide +kernel
theorem dX9_carve_83 : decode cX9_carve 83 = .ok (.bipush 6, 2) := by decide +kernel
theorem dX9_carve_85 : decode cX9_carve 85 = .ok (.dup2, 1) := by decide +kernel
theorem dX9_carve_86 : decode cX9_carve 86 = .ok (.iaload, 1) := by decide +kernel
theorem dX9_carve_87 : decode cX9_carve 87 = .ok (.iload 4, 2) := by decide +kernel
theorem dX9_carve_89 : decode cX9_carve 89 = .ok (.iadd, 1) := by decide +kernel
theorem dX9_carve_90 : decode cX9_carve 90 = .ok (.iastore, 1) := by decide +kernel
theorem dX9_carve_91 : decode cX9_carve 91 = .ok (.iload 4, 2) := by decide +kernel
theorem dX9_carve_93 : decode cX9_carve 93 = .ok (.ireturn, 1) := by decide +kernel
theorem dX9_sharpen_0 : decode cX9_sharpen 0 = .ok (.aload_n 0, 1) := by decide +kernel
theorem dX9_sharpen_1 : decode cX9_sharpen 1 = .ok (.iconst 0, 1) := by decide +kernel
theorem dX9_sharpen_2 : decode cX9_sharpen 2 = .ok (.putfield 3, 3) := by decide +kernel
theorem dX9_sharpen_5 : decode cX9_sharpen 5 = .ok (.aload_n 0, 1) := by decide +kernel
theorem dX9_sharpen_6 : decode cX9_sharpen 6 = .ok (.invokevirtual 333, 3) := by decide +kernel
theorem dX9_sharpen_9 : decode cX9_sharpen 9 = .ok (.aload_n 0, 1) := by decide +kernel
theorem dX9_sharpen_10 : decode cX9_sharpen 10 = .ok (.getfield 17, 3) := by decide +kernel
theorem dX9_sharpen_13 : decode cX9_sharpen 13 = .ok (.iconst 5, 1) := by decide +kernel
theorem dX9_sharpen_14 : decode cX9_sharpen 14 = .ok (.iaload, 1) := by decide +kernel
theorem dX9_sharpen_15 : decode cX9_sharpen 15 = .ok (.istore_n 1, 1) := by decide +kernel
theorem dX9_sharpen_16 : decode cX9_sharpen 16 = .ok (.aload_n 0, 1) := by decide +kernel
theorem dX9_sharpen_17 : decode cX9_sharpen 17 = .ok (.getfield 17, 3) := by decide +kernel
theorem dX9_sharpen_20 : decode cX9_sharpen 20 = .ok (.iconst 5, 1) := by decide +kernel
theorem dX9_sharpen_21 : decode cX9_sharpen 21 = .ok (.aload_n 0, 1) := by decide +kernel
theorem dX9_sharpen_22 : decode cX9_sharpen 22 = .ok (.getfield 17, 3) := by decide +kernel
theorem dX9_sharpen_25 : decode cX9_sharpen 25 = .ok (.iconst 3, 1) := by decide +kernel
theorem dX9_sharpen_26 : decode cX9_sharpen 26 = .ok (.iaload, 1) := by decide +kernel
theorem dX9_sharpen_27 : decode cX9_sharpen 27 = .ok (.iastore, 1) := by decide +kernel
theorem dX9_sharpen_28 : decode cX9_sharpen 28 = .ok (.aload_n 0, 1) := by decide +kernel
theorem dX9_sharpen_29 : decode cX9_sharpen 29 = .ok (.getfield 17, 3) := by decide +kernel
theorem dX9_sharpen_32 : decode cX9_sharpen 32 = .ok (.bipush 6, 2) := by decide +kernel
theorem dX9_sharpen_34 : decode cX9_sharpen 34 = .ok (.dup2, 1) := by decide +kernel
theorem dX9_sharpen_35 : decode cX9_sharpen 35 = .ok (.iaload, 1) := by decide +kernel
theorem dX9_sharpen_36 : decode cX9_sharpen 36 = .ok (.aload_n 0, 1) := by decide +kernel
theorem dX9_sharpen_37 : decode cX9_sharpen 37 = .ok (.getfield 17, 3) := by decide +kernel
theorem dX9_sharpen_40 : decode cX9_sharpen 40 = .ok (.iconst 4, 1) := by decide +kernel
theorem dX9_sharpen_41 : decode cX9_sharpen 41 = .ok (.iaload, 1) := by decide +kernel
theorem dX9_sharpen_42 : decode cX9_sharpen 42 = .ok (.iadd, 1) := by decide +kernel
theorem dX9_sharpen_43 : decode cX9_sharpen 43 = .ok (.iastore, 1) := by decide +kernel
theorem dX9_sharpen_44 : decode cX9_sharpen 44 = .ok (.aload_n 0, 1) := by decide +kernel
theorem dX9_sharpen_45 : decode cX9_sharpen 45 = .ok (.getfield 17, 3) := by decide +kernel
theorem dX9_sharpen_48 : decode cX9_sharpen 48 = .ok (.bipush 7, 2) := by decide +kernel
theorem dX9_sharpen_50 : decode cX9_sharpen 50 = .ok (.dup2, 1) := by decide +kernel
theorem dX9_sharpen_51 : decode cX9_sharpen 51 = .ok (.iaload, 1) := by decide +kernel
theorem dX9_sharpen_52 : decode cX9_sharpen 52 = .ok (.iconst 1, 1) := by decide +kernel
theorem dX9_sharpen_53 : decode cX9_sharpen 53 = .ok (.iadd, 1) := by decide +kernel
theorem dX9_sharpen_54 : decode cX9_sharpen 54 = .ok (.iastore, 1) := by decide +kernel
theorem dX9_sharpen_55 : decode cX9_sharpen 55 = .ok (.iload_n 1, 1) := by decide +kernel
theorem dX9_sharpen_56 : decode cX9_sharpen 56 = .ok (.ireturn, 1) := by decide +kernel
theorem dX9_setChisel_0 : decode cX9_setChisel 0 = .ok (.aload_n 0, 1) := by decide +kernel
theorem dX9_setChisel_1 : decode cX9_setChisel 1 = .ok (.iload_n 1, 1) := by decide +kernel
theorem dX9_setChisel_2 : decode cX9_setChisel 2 = .ok (.invokestatic 382, 3) := by decide +kernel
theorem dX9_setChisel_5 : decode cX9_setChisel 5 = .ok (.ifCond .eq 19, 3) := by decide +kernel
theorem dX9_setChisel_8 : decode cX9_setChisel 8 = .ok (.iload_n 2, 1) := by decide +kernel
theorem dX9_setChisel_9 : decode cX9_setChisel 9 = .ok (.i2l, 1) := by decide +kernel
theorem dX9_setChisel_10 : decode cX9_setChisel 10 = .ok (.lconst 0, 1) := by decide +kernel
theorem dX9_setChisel_11 : decode cX9_setChisel 11 = .ok (.ldc2_w 435, 3) := by decide +kernel
theorem dX9_setChisel_14 : decode cX9_setChisel 14 = .ok (.invokestatic 75, 3) := by decide +kernel
theorem dX9_setChisel_17 : decode cX9_setChisel 17 = .ok (.ifCond .eq 7, 3) := by decide +kernel
theorem dX9_setChisel_20 : decode cX9_setChisel 20 = .ok (.iconst 1, 1) := by decide +kernel
theorem dX9_setChisel_21 : decode cX9_setChisel 21 = .ok (.goto 4, 3) := by decide +kernel
theorem dX9_setChisel_24 : decode cX9_setChisel 24 = .ok (.iconst 0, 1) := by decide +kernel
theorem dX9_setChisel_25 : decode cX9_setChisel 25 = .ok (.invokevirtual 191, 3) := by decide +kernel
theorem dX9_setChisel_28 : decode cX9_setChisel 28 = .ok (.ifCond .ne 5, 3) := by decide +kernel
theorem dX9_setChisel_31 : decode cX9_setChisel 31 = .ok (.iconst 0, 1) := by decide +kernel
theorem dX9_setChisel_32 : decode cX9_setChisel 32 = .ok (.ireturn, 1) := by decide +kernel
theorem dX9_setChisel_33 : decode cX9_setChisel 33 = .ok (.aload_n 0, 1) := by decide +kernel
theorem dX9_setChisel_34 : decode cX9_setChisel 34 = .ok (.invokevirtual 333, 3) := by decide +kernel
theorem dX9_setChisel_37 : decode cX9_setChisel 37 = .ok (.bipush 100, 2) := by decide +kernel
theorem dX9_setChisel_39 : decode cX9_setChisel 39 = .ok (.aload_n 0, 1) := by decide +kernel
theorem dX9_setChisel_40 : decode cX9_setChisel 40 = .ok (.getfield 17, 3) := by decide +kernel
theorem dX9_setChisel_43 : decode cX9_setChisel 43 = .ok (.iconst 3, 1) := by decide +kernel
theorem dX9_setChisel_44 : decode cX9_setChisel 44 = .ok (.iaload, 1) := by decide +kernel
theorem dX9_setChisel_45 : decode cX9_setChisel 45 = .ok (.imul, 1) := by decide +kernel
theorem dX9_setChisel_46 : decode cX9_setChisel 46 = .ok (.aload_n 0, 1) := by decide +kernel
theorem dX9_setChisel_47 : decode cX9_setChisel 47 = .ok (.getfield 17, 3) := by decide +kernel
theorem dX9_setChisel_50 : decode cX9_setChisel 50 = .ok (.iconst 4, 1) := by decide +kernel
theorem dX9_setChisel_51 : decode cX9_setChisel 51 = .ok (.iaload, 1) := by decide +kernel
theorem dX9_setChisel_52 : decode cX9_setChisel 52 = .ok (.iadd, 1) := by decide +kernel
theorem dX9_setChisel_53 : decode cX9_setChisel 53 = .ok (.istore_n 3, 1) := by decide +kernel
theorem dX9_setChisel_54 : decode cX9_setChisel 54 = .ok (.aload_n 0, 1) := by decide +kernel
theorem dX9_setChisel_55 : decode cX9_setChisel 55 = .ok (.getfield 17, 3) := by decide +kernel
theorem dX9_setChisel_58 : decode cX9_setChisel 58 = .ok (.iconst 3, 1) := by decide +kernel
theorem dX9_setChisel_59 : decode cX9_setChisel 59 = .ok (.iload_n 1, 1) := by decide +kernel
theorem dX9_setChisel_60 : decode cX9_setChisel 60 = .ok (.iastore, 1) := by decide +kernel
theorem dX9_setChisel_61 : decode cX9_setChisel 61 = .ok (.aload_n 0, 1) := by decide +kernel
theorem dX9_setChisel_62 : decode cX9_setChisel 62 = .ok (.getfield 17, 3) := by decide +kernel
theorem dX9_setChisel_65 : decode cX9_setChisel 65 = .ok (.iconst 5, 1) := by decide +kernel
theorem dX9_setChisel_66 : decode cX9_setChisel 66 = .ok (.iload_n 1, 1) := by decide +kernel
theorem dX9_setChisel_67 : decode cX9_setChisel 67 = .ok (.iastore, 1) := by decide +kernel
theorem dX9_setChisel_68 : decode cX9_setChisel 68 = .ok (.aload_n 0, 1) := by decide +kernel
theorem dX9_setChisel_69 : decode cX9_setChisel 69 = .ok (.getfield 17, 3) := by decide +kernel
theorem dX9_setChisel_72 : decode cX9_setChisel 72 = .ok (.iconst 4, 1) := by decide +kernel
theorem dX9_setChisel_73 : decode cX9_setChisel 73 = .ok (.iload_n 2, 1) := by decide +kernel
theorem dX9_setChisel_74 : decode cX9_setChisel 74 = .ok (.iastore, 1) := by decide +kernel
theorem dX9_setChisel_75 : decode cX9_setChisel 75 = .ok (.iload_n 3, 1) := by decide +kernel
theorem dX9_setChisel_76 : decode cX9_setChisel 76 = .ok (.ireturn, 1) := by decide +kernel
theorem dX9_isKeep_0 : decode cX9_isKeep 0 = .ok (.iload_n 0, 1) := by decide +kernel
theorem dX9_isKeep_1 : decode cX9_isKeep 1 = .ok (.i2l, 1) := by decide +kernel
theorem dX9_isKeep_2 : decode cX9_isKeep 2 = .ok (.lconst 0, 1) := by decide +kernel
theorem dX9_isKeep_3 : decode cX9_isKeep 3 = .ok (.lconst 1, 1) := by decide +kernel
theorem dX9_isKeep_4 : decode cX9_isKeep 4 = .ok (.invokestatic 75, 3) := by decide +kernel
theorem dX9_isKeep_7 : decode cX9_isKeep 7 = .ok (.ireturn, 1) := by decide +kernel
theorem dX9_keep_0 : decode cX9_keep 0 = .ok (.aload_n 0, 1) := by decide +kernel
theorem dX9_keep_1 : decode cX9_keep 1 = .ok (.iload_n 1, 1) := by decide +kernel
theorem dX9_keep_2 : decode cX9_keep 2 = .ok (.invokestatic 437, 3) := by decide +kernel
theorem dX9_keep_5 : decode cX9_keep 5 = .ok (.invokevirtual 191, 3) := by decide +kernel
theorem dX9_keep_8 : decode cX9_keep 8 = .ok (.ifCond .ne 5, 3) := by decide +kernel
theorem dX9_keep_11 : decode cX9_keep 11 = .ok (.iconst 0, 1) := by decide +kernel
theorem dX9_keep_12 : decode cX9_keep 12 = .ok (.ireturn, 1) := by decide +kernel
theorem dX9_keep_13 : decode cX9_keep 13 = .ok (.iconst 0, 1) := by decide +kernel
theorem dX9_keep_14 : decode cX9_keep 14 = .ok (.istore_n 2, 1) := by decide +kernel
theorem dX9_keep_15 : decode cX9_keep 15 = .ok (.iload_n 2, 1) := by decide +kernel
theorem dX9_keep_16 : decode cX9_keep 16 = .ok (.sipush 1099, 3) := by decide +kernel
theorem dX9_keep_19 : decode cX9_keep 19 = .ok (.if_icmp .ge 27, 3) := by decide +kernel
theorem dX9_keep_22 : decode cX9_keep 22 = .ok (.aload_n 0, 1) := by decide +kernel
theorem dX9_keep_23 : decode cX9_keep 23 = .ok (.getfield 55, 3) := by decide +kernel
theorem dX9_keep_26 : decode cX9_keep 26 = .ok (.sipush 1099, 3) := by decide +kernel
theorem dX9_keep_29 : decode cX9_keep 29 = .ok (.iload_n 1, 1) := by decide +kernel
theorem dX9_keep_30 : decode cX9_keep 30 = .ok (.imul, 1) := by decide +kernel
theorem dX9_keep_31 : decode cX9_keep 31 = .ok (.iload_n 2, 1) := by decide +kernel
theorem dX9_keep_32 : decode cX9_keep 32 = .ok (.iadd, 1) := by decide +kernel
theorem dX9_keep_33 : decode cX9_keep 33 = .ok (.aload_n 0, 1) := by decide +kernel
theorem dX9_keep_34 : decode cX9_keep 34 = .ok (.getfield 17, 3) := by decide +kernel
theorem dX9_keep_37 : decode cX9_keep 37 = .ok (.iload_n 2, 1) := by decide +kernel
theorem dX9_keep_38 : decode cX9_keep 38 = .ok (.iaload, 1) := by decide +kernel
theorem dX9_keep_39 : decode cX9_keep 39 = .ok (.iastore, 1) := by decide +kernel
theorem dX9_keep_40 : decode cX9_keep 40 = .ok (.iinc 2 1, 3) := by decide +kernel
theorem dX9_keep_43 : decode cX9_keep 43 = .ok (.goto (-28), 3) := by decide +kernel
theorem dX9_keep_46 : decode cX9_keep 46 = .ok (.aload_n 0, 1) := by decide +kernel
theorem dX9_keep_47 : decode cX9_keep 47 = .ok (.getfield 58, 3) := by decide +kernel
theorem dX9_keep_50 : decode cX9_keep 50 = .ok (.iload_n 1, 1) := by decide +kernel
theorem dX9_keep_51 : decode cX9_keep 51 = .ok (.iconst 1, 1) := by decide +kernel
theorem dX9_keep_52 : decode cX9_keep 52 = .ok (.bastore, 1) := by decide +kernel
theorem dX9_keep_53 : decode cX9_keep 53 = .ok (.aload_n 0, 1) := by decide +kernel
theorem dX9_keep_54 : decode cX9_keep 54 = .ok (.getfield 17, 3) := by decide +kernel
theorem dX9_keep_57 : decode cX9_keep 57 = .ok (.bipush 8, 2) := by decide +kernel
theorem dX9_keep_59 : decode cX9_keep 59 = .ok (.iaload, 1) := by decide +kernel
theorem dX9_keep_60 : decode cX9_keep 60 = .ok (.ireturn, 1) := by decide +kernel
theorem dX9_restore_0 : decode cX9_restore 0 = .ok (.aload_n 0, 1) := by decide +kernel
theorem dX9_restore_1 : decode cX9_restore 1 = .ok (.iload_n 1, 1) := by decide +kernel
theorem dX9_restore_2 : decode cX9_restore 2 = .ok (.invokestatic 437, 3) := by decide +kernel
theorem dX9_restore_5 : decode cX9_restore 5 = .ok (.iload_n 1, 1) := by decide +kernel
theorem dX9_restore_6 : decode cX9_restore 6 = .ok (.invokestatic 437, 3) := by decide +kernel
theorem dX9_restore_9 : decode cX9_restore 9 = .ok (.ifCond .eq 12, 3) := by decide +kernel
theorem dX9_restore_12 : decode cX9_restore 12 = .ok (.aload_n 0, 1) := by decide +kernel
theorem dX9_restore_13 : decode cX9_restore 13 = .ok (.getfield 58, 3) := by decide +kernel
theorem dX9_restore_16 : decode cX9_restore 16 = .ok (.iload_n 1, 1) := by decide +kernel
theorem dX9_restore_17 : decode cX9_restore 17 = .ok (.baload, 1) := by decide +kernel
theorem dX9_restore_18 : decode cX9_restore 18 = .ok (.ifCond .eq 7, 3) := by decide +kernel
theorem dX9_restore_21 : decode cX9_restore 21 = .ok (.iconst 1, 1) := by decide +kernel
theorem dX9_restore_22 : decode cX9_restore 22 = .ok (.goto 4, 3) := by decide +kernel
theorem dX9_restore_25 : decode cX9_restore 25 = .ok (.iconst 0, 1) := by decide +kernel
theorem dX9_restore_26 : decode cX9_restore 26 = .ok (.invokevirtual 349, 3) := by decide +kernel
theorem dX9_restore_29 : decode cX9_restore 29 = .ok (.ifCond .ne 5, 3) := by decide +kernel
theorem dX9_restore_32 : decode cX9_restore 32 = .ok (.iconst 0, 1) := by decide +kernel
theorem dX9_restore_33 : decode cX9_restore 33 = .ok (.ireturn, 1) := by decide +kernel
theorem dX9_restore_34 : decode cX9_restore 34 = .ok (.aload_n 0, 1) := by decide +kernel
theorem dX9_restore_35 : decode cX9_restore 35 = .ok (.invokevirtual 333, 3) := by decide +kernel
theorem dX9_restore_38 : decode cX9_restore 38 = .ok (.iconst 0, 1) := by decide +kernel
theorem dX9_restore_39 : decode cX9_restore 39 = .ok (.istore_n 2, 1) := by decide +kernel
theorem dX9_restore_40 : decode cX9_restore 40 = .ok (.iload_n 2, 1) := by decide +kernel
theorem dX9_restore_41 : decode cX9_restore 41 = .ok (.sipush 1099, 3) := by decide +kernel
theorem dX9_restore_44 : decode cX9_restore 44 = .ok (.if_icmp .ge 27, 3) := by decide +kernel
theorem dX9_restore_47 : decode cX9_restore 47 = .ok (.aload_n 0, 1) := by decide +kernel
theorem dX9_restore_48 : decode cX9_restore 48 = .ok (.getfield 17, 3) := by decide +kernel
theorem dX9_restore_51 : decode cX9_restore 51 = .ok (.iload_n 2, 1) := by decide +kernel
theorem dX9_restore_52 : decode cX9_restore 52 = .ok (.aload_n 0, 1) := by decide +kernel
theorem dX9_restore_53 : decode cX9_restore 53 = .ok (.getfield 55, 3) := by decide +kernel
theorem dX9_restore_56 : decode cX9_restore 56 = .ok (.sipush 1099, 3) := by decide +kernel
theorem dX9_restore_59 : decode cX9_restore 59 = .ok (.iload_n 1, 1) := by decide +kernel
theorem dX9_restore_60 : decode cX9_restore 60 = .ok (.imul, 1) := by decide +kernel
theorem dX9_restore_61 : decode cX9_restore 61 = .ok (.iload_n 2, 1) := by decide +kernel
theorem dX9_restore_62 : decode cX9_restore 62 = .ok (.iadd, 1) := by decide +kernel
theorem dX9_restore_63 : decode cX9_restore 63 = .ok (.iaload, 1) := by decide +kernel
theorem dX9_restore_64 : decode cX9_restore 64 = .ok (.iastore, 1) := by decide +kernel
theorem dX9_restore_65 : decode cX9_restore 65 = .ok (.iinc 2 1, 3) := by decide +kernel
theorem dX9_restore_68 : decode cX9_restore 68 = .ok (.goto (-28), 3) := by decide +kernel
theorem dX9_restore_71 : decode cX9_restore 71 = .ok (.aload_n 0, 1) := by decide +kernel
theorem dX9_restore_72 : decode cX9_restore 72 = .ok (.getfield 17, 3) := by decide +kernel
theorem dX9_restore_75 : decode cX9_restore 75 = .ok (.bipush 8, 2) := by decide +kernel
theorem dX9_restore_77 : decode cX9_restore 77 = .ok (.iaload, 1) := by decide +kernel
theorem dX9_restore_78 : decode cX9_restore 78 = .ok (.ireturn, 1) := by decide +kernel
theorem dX9_remember_0 : decode cX9_remember 0 = .ok (.aload_n 0, 1) := by decide +kernel
theorem dX9_remember_1 : decode cX9_remember 1 = .ok (.aload_n 0, 1) := by decide +kernel
theorem dX9_remember_2 : decode cX9_remember 2 = .ok (.getfield 17, 3) := by decide +kernel
theorem dX9_remember_5 : decode cX9_remember 5 = .ok (.invokevirtual 414, 3) := by decide +kernel
theorem dX9_remember_8 : decode cX9_remember 8 = .ok (.return_, 1) := by decide +kernel
theorem dX9_rememberOf_0 : decode cX9_rememberOf 0 = .ok (.aload_n 0, 1) := by decide +kernel
theorem dX9_rememberOf_1 : decode cX9_rememberOf 1 = .ok (.getfield 440, 3) := by decide +kernel
theorem dX9_rememberOf_4 : decode cX9_rememberOf 4 = .ok (.bipush 6, 2) := by decide +kernel
theorem dX9_rememberOf_6 : decode cX9_rememberOf 6 = .ok (.if_icmp .ne 46, 3) := by decide +kernel
theorem dX9_rememberOf_9 : decode cX9_rememberOf 9 = .ok (.sipush 1099, 3) := by decide +kernel
theorem dX9_rememberOf_12 : decode cX9_rememberOf 12 = .ok (.istore_n 2, 1) := by decide +kernel
theorem dX9_rememberOf_13 : decode cX9_rememberOf 13 = .ok (.iload_n 2, 1) := by decide +kernel
theorem dX9_rememberOf_14 : decode cX9_rememberOf 14 = .ok (.sipush 6594, 3) := by decide +kernel
theorem dX9_rememberOf_17 : decode cX9_rememberOf 17 = .ok (.if_icmp .ge 25, 3) := by decide +kernel
theorem dX9_rememberOf_20 : decode cX9_rememberOf 20 = .ok (.aload_n 0, 1) := by decide +kernel
theorem dX9_rememberOf_21 : decode cX9_rememberOf 21 = .ok (.getfield 62, 3) := by decide +kernel
theorem dX9_rememberOf_24 : decode cX9_rememberOf 24 = .ok (.iload_n 2, 1) := by decide +kernel
theorem dX9_rememberOf_25 : decode cX9_rememberOf 25 = .ok (.sipush 1099, 3) := by decide +kernel
theorem dX9_rememberOf_28 : decode cX9_rememberOf 28 = .ok (.isub, 1) := by decide +kernel
theorem dX9_rememberOf_29 : decode cX9_rememberOf 29 = .ok (.aload_n 0, 1) := by decide +kernel
theorem dX9_rememberOf_30 : decode cX9_rememberOf 30 = .ok (.getfield 62, 3) := by decide +kernel
theorem dX9_rememberOf_33 : decode cX9_rememberOf 33 = .ok (.iload_n 2, 1) := by decide +kernel
theorem dX9_rememberOf_34 : decode cX9_rememberOf 34 = .ok (.iaload, 1) := by decide +kernel
theorem dX9_rememberOf_35 : decode cX9_rememberOf 35 = .ok (.iastore, 1) := by decide +kernel
theorem dX9_rememberOf_36 : decode cX9_rememberOf 36 = .ok (.iinc 2 1, 3) := by decide +kernel
theorem dX9_rememberOf_39 : decode cX9_rememberOf 39 = .ok (.goto (-26), 3) := by decide +kernel
theorem dX9_rememberOf_42 : decode cX9_rememberOf 42 = .ok (.aload_n 0, 1) := by decide +kernel
theorem dX9_rememberOf_43 : decode cX9_rememberOf 43 = .ok (.dup, 1) := by decide +kernel
theorem dX9_rememberOf_44 : decode cX9_rememberOf 44 = .ok (.getfield 440, 3) := by decide +kernel
theorem dX9_rememberOf_47 : decode cX9_rememberOf 47 = .ok (.iconst 1, 1) := by decide +kernel
theorem dX9_rememberOf_48 : decode cX9_rememberOf 48 = .ok (.isub, 1) := by decide +kernel
theorem dX9_rememberOf_49 : decode cX9_rememberOf 49 = .ok (.putfield 440, 3) := by decide +kernel
theorem dX9_rememberOf_52 : decode cX9_rememberOf 52 = .ok (.iconst 0, 1) := by decide +kernel
theorem dX9_rememberOf_53 : decode cX9_rememberOf 53 = .ok (.istore_n 2, 1) := by decide +kernel
theorem dX9_rememberOf_54 : decode cX9_rememberOf 54 = .ok (.iload_n 2, 1) := by decide +kernel
theorem dX9_rememberOf_55 : decode cX9_rememberOf 55 = .ok (.sipush 1099, 3) := by decide +kernel
theorem dX9_rememberOf_58 : decode cX9_rememberOf 58 = .ok (.if_icmp .ge 27, 3) := by decide +kernel
theorem dX9_rememberOf_61 : decode cX9_rememberOf 61 = .ok (.aload_n 0, 1) := by decide +kernel
theorem dX9_rememberOf_62 : decode cX9_rememberOf 62 = .ok (.getfield 62, 3) := by decide +kernel
theorem dX9_rememberOf_65 : decode cX9_rememberOf 65 = .ok (.sipush 1099, 3) := by decide +kernel
theorem dX9_rememberOf_68 : decode cX9_rememberOf 68 = .ok (.aload_n 0, 1) := by decide +kernel
theorem dX9_rememberOf_69 : decode cX9_rememberOf 69 = .ok (.getfield 440, 3) := by decide +kernel
theorem dX9_rememberOf_72 : decode cX9_rememberOf 72 = .ok (.imul, 1) := by decide +kernel
theorem dX9_rememberOf_73 : decode cX9_rememberOf 73 = .ok (.iload_n 2, 1) := by decide +kernel
theorem dX9_rememberOf_74 : decode cX9_rememberOf 74 = .ok (.iadd, 1) := by decide +kernel
theorem dX9_rememberOf_75 : decode cX9_rememberOf 75 = .ok (.aload_n 1, 1) := by decide +kernel
theorem dX9_rememberOf_76 : decode cX9_rememberOf 76 = .ok (.iload_n 2, 1) := by decide +kernel
theorem dX9_rememberOf_77 : decode cX9_rememberOf 77 = .ok (.iaload, 1) := by decide +kernel
theorem dX9_rememberOf_78 : decode cX9_rememberOf 78 = .ok (.iastore, 1) := by decide +kernel
theorem dX9_rememberOf_79 : decode cX9_rememberOf 79 = .ok (.iinc 2 1, 3) := by decide +kernel
theorem dX9_rememberOf_82 : decode cX9_rememberOf 82 = .ok (.goto (-28), 3) := by decide +kernel
theorem dX9_rememberOf_85 : decode cX9_rememberOf 85 = .ok (.aload_n 0, 1) := by decide +kernel
theorem dX9_rememberOf_86 : decode cX9_rememberOf 86 = .ok (.dup, 1) := by decide +kernel
theorem dX9_rememberOf_87 : decode cX9_rememberOf 87 = .ok (.getfield 440, 3) := by decide +kernel
theorem dX9_rememberOf_90 : decode cX9_rememberOf 90 = .ok (.iconst 1, 1) := by decide +kernel
theorem dX9_rememberOf_91 : decode cX9_rememberOf 91 = .ok (.iadd, 1) := by decide +kernel
theorem dX9_rememberOf_92 : decode cX9_rememberOf 92 = .ok (.putfield 440, 3) := by decide +kernel
theorem dX9_rememberOf_95 : decode cX9_rememberOf 95 = .ok (.return_, 1) := by decide +kernel
theorem dX9_undo_0 : decode cX9_undo 0 = .ok (.aload_n 0, 1) := by decide +kernel
theorem dX9_undo_1 : decode cX9_undo 1 = .ok (.aload_n 0, 1) := by decide +kernel
theorem dX9_undo_2 : decode cX9_undo 2 = .ok (.getfield 440, 3) := by decide +kernel
theorem dX9_undo_5 : decode cX9_undo 5 = .ok (.ifCond .le 7, 3) := by decide +kernel
theorem dX9_undo_8 : decode cX9_undo 8 = .ok (.iconst 1, 1) := by decide +kernel
theorem dX9_undo_9 : decode cX9_undo 9 = .ok (.goto 4, 3) := by decide +kernel
theorem dX9_undo_12 : decode cX9_undo 12 = .ok (.iconst 0, 1) := by decide +kernel
theorem dX9_undo_13 : decode cX9_undo 13 = .ok (.invokevirtual 191, 3) := by decide +kernel
theorem dX9_undo_16 : decode cX9_undo 16 = .ok (.ifCond .ne 5, 3) := by decide +kernel
theorem dX9_undo_19 : decode cX9_undo 19 = .ok (.iconst 0, 1) := by decide +kernel
theorem dX9_undo_20 : decode cX9_undo 20 = .ok (.ireturn, 1) := by decide +kernel
theorem dX9_undo_21 : decode cX9_undo 21 = .ok (.aload_n 0, 1) := by decide +kernel
theorem dX9_undo_22 : decode cX9_undo 22 = .ok (.dup, 1) := by decide +kernel
theorem dX9_undo_23 : decode cX9_undo 23 = .ok (.getfield 440, 3) := by decide +kernel
theorem dX9_undo_26 : decode cX9_undo 26 = .ok (.iconst 1, 1) := by decide +kernel
theorem dX9_undo_27 : decode cX9_undo 27 = .ok (.isub, 1) := by decide +kernel
theorem dX9_undo_28 : decode cX9_undo 28 = .ok (.putfield 440, 3) := by decide +kernel
theorem dX9_undo_31 : decode cX9_undo 31 = .ok (.iconst 0, 1) := by decide +kernel
theorem dX9_undo_32 : decode cX9_undo 32 = .ok (.istore_n 1, 1) := by decide +kernel
theorem dX9_undo_33 : decode cX9_undo 33 = .ok (.iload_n 1, 1) := by decide +kernel
theorem dX9_undo_34 : decode cX9_undo 34 = .ok (.sipush 1099, 3) := by decide +kernel
theorem dX9_undo_37 : decode cX9_undo 37 = .ok (.if_icmp .ge 30, 3) := by decide +kernel
theorem dX9_undo_40 : decode cX9_undo 40 = .ok (.aload_n 0, 1) := by decide +kernel
theorem dX9_undo_41 : decode cX9_undo 41 = .ok (.getfield 17, 3) := by decide +kernel
theorem dX9_undo_44 : decode cX9_undo 44 = .ok (.iload_n 1, 1) := by decide +kernel
theorem dX9_undo_45 : decode cX9_undo 45 = .ok (.aload_n 0, 1) := by decide +kernel
theorem dX9_undo_46 : decode cX9_undo 46 = .ok (.getfield 62, 3) := by decide +kernel
theorem dX9_undo_49 : decode cX9_undo 49 = .ok (.sipush 1099, 3) := by decide +kernel
theorem dX9_undo_52 : decode cX9_undo 52 = .ok (.aload_n 0, 1) := by decide +kernel
theorem dX9_undo_53 : decode cX9_undo 53 = .ok (.getfield 440, 3) := by decide +kernel
theorem dX9_undo_56 : decode cX9_undo 56 = .ok (.imul, 1) := by decide +kernel
theorem dX9_undo_57 : decode cX9_undo 57 = .ok (.iload_n 1, 1) := by decide +kernel
theorem dX9_undo_58 : decode cX9_undo 58 = .ok (.iadd, 1) := by decide +kernel
theorem dX9_undo_59 : decode cX9_undo 59 = .ok (.iaload, 1) := by decide +kernel
theorem dX9_undo_60 : decode cX9_undo 60 = .ok (.iastore, 1) := by decide +kernel
theorem dX9_undo_61 : decode cX9_undo 61 = .ok (.iinc 1 1, 3) := by decide +kernel
theorem dX9_undo_64 : decode cX9_undo 64 = .ok (.goto (-31), 3) := by decide +kernel
theorem dX9_undo_67 : decode cX9_undo 67 = .ok (.aload_n 0, 1) := by decide +kernel
theorem dX9_undo_68 : decode cX9_undo 68 = .ok (.getfield 440, 3) := by decide +kernel
theorem dX9_undo_71 : decode cX9_undo 71 = .ok (.ireturn, 1) := by decide +kernel
theorem dX9_undoCount_0 : decode cX9_undoCount 0 = .ok (.aload_n 0, 1) := by decide +kernel
theorem dX9_undoCount_1 : decode cX9_undoCount 1 = .ok (.iconst 0, 1) := by decide +kernel
theorem dX9_undoCount_2 : decode cX9_undoCount 2 = .ok (.putfield 3, 3) := by decide +kernel
theorem dX9_undoCount_5 : decode cX9_undoCount 5 = .ok (.aload_n 0, 1) := by decide +kernel
theorem dX9_undoCount_6 : decode cX9_undoCount 6 = .ok (.getfield 440, 3) := by decide +kernel
theorem dX9_undoCount_9 : decode cX9_undoCount 9 = .ok (.ireturn, 1) := by decide +kernel
theorem dX9_write_0 : decode cX9_write 0 = .ok (.aload_n 0, 1) := by decide +kernel
theorem dX9_write_1 : decode cX9_write 1 = .ok (.getfield 65, 3) := by decide +kernel
theorem dX9_write_4 : decode cX9_write 4 = .ok (.aload_n 0, 1) := by decide +kernel
theorem dX9_write_5 : decode cX9_write 5 = .ok (.getfield 443, 3) := by decide +kernel
theorem dX9_write_8 : decode cX9_write 8 = .ok (.iload_n 1, 1) := by decide +kernel
theorem dX9_write_9 : decode cX9_write 9 = .ok (.i2b, 1) := by decide +kernel
theorem dX9_write_10 : decode cX9_write 10 = .ok (.bastore, 1) := by decide +kernel
theorem dX9_write_11 : decode cX9_write 11 = .ok (.aload_n 0, 1) := by decide +kernel
theorem dX9_write_12 : decode cX9_write 12 = .ok (.dup, 1) := by decide +kernel
theorem dX9_write_13 : decode cX9_write 13 = .ok (.getfield 443, 3) := by decide +kernel
theorem dX9_write_16 : decode cX9_write 16 = .ok (.iconst 1, 1) := by decide +kernel
theorem dX9_write_17 : decode cX9_write 17 = .ok (.iadd, 1) := by decide +kernel
theorem dX9_write_18 : decode cX9_write 18 = .ok (.putfield 443, 3) := by decide +kernel
theorem dX9_write_21 : decode cX9_write 21 = .ok (.return_, 1) := by decide +kernel
theorem dX9_shown_0 : decode cX9_shown 0 = .ok (.aload_n 0, 1) := by decide +kernel
theorem dX9_shown_1 : decode cX9_shown 1 = .ok (.iload_n 1, 1) := by decide +kernel
theorem dX9_shown_2 : decode cX9_shown 2 = .ok (.iload_n 2, 1) := by decide +kernel
theorem dX9_shown_3 : decode cX9_shown 3 = .ok (.invokevirtual 132, 3) := by decide +kernel
theorem dX9_shown_6 : decode cX9_shown 6 = .ok (.istore_n 3, 1) := by decide +kernel
theorem dX9_shown_7 : decode cX9_shown 7 = .ok (.iload_n 2, 1) := by decide +kernel
theorem dX9_shown_8 : decode cX9_shown 8 = .ok (.aload_n 0, 1) := by decide +kernel
theorem dX9_shown_9 : decode cX9_shown 9 = .ok (.iload_n 1, 1) := by decide +kernel
theorem dX9_shown_10 : decode cX9_shown 10 = .ok (.invokevirtual 362, 3) := by decide +kernel
theorem dX9_shown_13 : decode cX9_shown 13 = .ok (.if_icmp .ge 16, 3) := by decide +kernel
theorem dX9_shown_16 : decode cX9_shown 16 = .ok (.iload_n 3, 1) := by decide +kernel
theorem dX9_shown_17 : decode cX9_shown 17 = .ok (.bipush 97, 2) := by decide +kernel
theorem dX9_shown_19 : decode cX9_shown 19 = .ok (.if_icmp .lt 10, 3) := by decide +kernel
theorem dX9_shown_22 : decode cX9_shown 22 = .ok (.iload_n 3, 1) := by decide +kernel
theorem dX9_shown_23 : decode cX9_shown 23 = .ok (.bipush 32, 2) := by decide +kernel
theorem dX9_shown_25 : decode cX9_shown 25 = .ok (.isub, 1) := by decide +kernel
theorem dX9_shown_26 : decode cX9_shown 26 = .ok (.goto 4, 3) := by decide +kernel
theorem dX9_shown_29 : decode cX9_shown 29 = .ok (.iload_n 3, 1) := by decide +kernel
theorem dX9_shown_30 : decode cX9_shown 30 = .ok (.ireturn, 1) := by decide +kernel
theorem dX9_writeRow_0 : decode cX9_writeRow 0 = .ok (.aload_n 0, 1) := by decide +kernel
theorem dX9_writeRow_1 : decode cX9_writeRow 1 = .ok (.aload_n 0, 1) := by decide +kernel
theorem dX9_writeRow_2 : decode cX9_writeRow 2 = .ok (.iload_n 1, 1) := by decide +kernel
theorem dX9_writeRow_3 : decode cX9_writeRow 3 = .ok (.invokevirtual 368, 3) := by decide +kernel
theorem dX9_writeRow_6 : decode cX9_writeRow 6 = .ok (.invokevirtual 191, 3) := by decide +kernel
theorem dX9_writeRow_9 : decode cX9_writeRow 9 = .ok (.ifCond .ne 5, 3) := by decide +kernel
theorem dX9_writeRow_12 : decode cX9_writeRow 12 = .ok (.iconst 0, 1) := by decide +kernel
theorem dX9_writeRow_13 : decode cX9_writeRow 13 = .ok (.ireturn, 1) := by decide +kernel
theorem dX9_writeRow_14 : decode cX9_writeRow 14 = .ok (.aload_n 0, 1) := by decide +kernel
theorem dX9_writeRow_15 : decode cX9_writeRow 15 = .ok (.invokevirtual 179, 3) := by decide +kernel
theorem dX9_writeRow_18 : decode cX9_writeRow 18 = .ok (.istore_n 2, 1) := by decide +kernel
theorem dX9_writeRow_19 : decode cX9_writeRow 19 = .ok (.aload_n 0, 1) := by decide +kernel
theorem dX9_writeRow_20 : decode cX9_writeRow 20 = .ok (.iconst 0, 1) := by decide +kernel
theorem dX9_writeRow_21 : decode cX9_writeRow 21 = .ok (.putfield 443, 3) := by decide +kernel
theorem dX9_writeRow_24 : decode cX9_writeRow 24 = .ok (.iconst 0, 1) := by decide +kernel
theorem dX9_writeRow_25 : decode cX9_writeRow 25 = .ok (.istore_n 3, 1) := by decide +kernel
theorem dX9_writeRow_26 : decode cX9_writeRow 26 = .ok (.iload_n 3, 1) := by decide +kernel
theorem dX9_writeRow_27 : decode cX9_writeRow 27 = .ok (.aload_n 0, 1) := by decide +kernel
theorem dX9_writeRow_28 : decode cX9_writeRow 28 = .ok (.invokevirtual 71, 3) := by decide +kernel
theorem dX9_writeRow_31 : decode cX9_writeRow 31 = .ok (.if_icmp .ge 65, 3) := by decide +kernel
theorem dX9_writeRow_34 : decode cX9_writeRow 34 = .ok (.aload_n 0, 1) := by decide +kernel
theorem dX9_writeRow_35 : decode cX9_writeRow 35 = .ok (.iload_n 3, 1) := by decide +kernel
theorem dX9_writeRow_36 : decode cX9_writeRow 36 = .ok (.iload_n 1, 1) := by decide +kernel
theorem dX9_writeRow_37 : decode cX9_writeRow 37 = .ok (.invokevirtual 365, 3) := by decide +kernel
theorem dX9_writeRow_40 : decode cX9_writeRow 40 = .ok (.istore 4, 2) := by decide +kernel
theorem dX9_writeRow_42 : decode cX9_writeRow 42 = .ok (.aload_n 0, 1) := by decide +kernel
theorem dX9_writeRow_43 : decode cX9_writeRow 43 = .ok (.iload_n 3, 1) := by decide +kernel
theorem dX9_writeRow_44 : decode cX9_writeRow 44 = .ok (.iload_n 1, 1) := by decide +kernel
theorem dX9_writeRow_45 : decode cX9_writeRow 45 = .ok (.invokevirtual 93, 3) := by decide +kernel
theorem dX9_writeRow_48 : decode cX9_writeRow 48 = .ok (.ifCond .eq 8, 3) := by decide +kernel
theorem dX9_writeRow_51 : decode cX9_writeRow 51 = .ok (.bipush 35, 2) := by decide +kernel
theorem dX9_writeRow_53 : decode cX9_writeRow 53 = .ok (.goto 5, 3) := by decide +kernel
theorem dX9_writeRow_56 : decode cX9_writeRow 56 = .ok (.bipush 46, 2) := by decide +kernel
theorem dX9_writeRow_58 : decode cX9_writeRow 58 = .ok (.istore 5, 2) := by decide +kernel
theorem dX9_writeRow_60 : decode cX9_writeRow 60 = .ok (.aload_n 0, 1) := by decide +kernel
theorem dX9_writeRow_61 : decode cX9_writeRow 61 = .ok (.iload 4, 2) := by decide +kernel
theorem dX9_writeRow_63 : decode cX9_writeRow 63 = .ok (.iconst (-1), 1) := by decide +kernel
theorem dX9_writeRow_64 : decode cX9_writeRow 64 = .ok (.if_icmp .ne 8, 3) := by decide +kernel
theorem dX9_writeRow_67 : decode cX9_writeRow 67 = .ok (.iload 5, 2) := by decide +kernel
theorem dX9_writeRow_69 : decode cX9_writeRow 69 = .ok (.goto 18, 3) := by decide +kernel
theorem dX9_writeRow_72 : decode cX9_writeRow 72 = .ok (.aload_n 0, 1) := by decide +kernel
theorem dX9_writeRow_73 : decode cX9_writeRow 73 = .ok (.iload 4, 2) := by decide +kernel
theorem dX9_writeRow_75 : decode cX9_writeRow 75 = .ok (.iload_n 3, 1) := by decide +kernel
theorem dX9_writeRow_76 : decode cX9_writeRow 76 = .ok (.aload_n 0, 1) := by decide +kernel
theorem dX9_writeRow_77 : decode cX9_writeRow 77 = .ok (.getfield 30, 3) := by decide +kernel
theorem dX9_writeRow_80 : decode cX9_writeRow 80 = .ok (.iload 4, 2) := by decide +kernel
theorem dX9_writeRow_82 : decode cX9_writeRow 82 = .ok (.iaload, 1) := by decide +kernel
theorem dX9_writeRow_83 : decode cX9_writeRow 83 = .ok (.isub, 1) := by decide +kernel
theorem dX9_writeRow_84 : decode cX9_writeRow 84 = .ok (.invokevirtual 446, 3) := by decide +kernel
theorem dX9_writeRow_87 : decode cX9_writeRow 87 = .ok (.invokevirtual 449, 3) := by decide +kernel
theorem dX9_writeRow_90 : decode cX9_writeRow 90 = .ok (.iinc 3 1, 3) := by decide +kernel
theorem dX9_writeRow_93 : decode cX9_writeRow 93 = .ok (.goto (-67), 3) := by decide +kernel
theorem dX9_writeRow_96 : decode cX9_writeRow 96 = .ok (.aload_n 0, 1) := by decide +kernel
theorem dX9_writeRow_97 : decode cX9_writeRow 97 = .ok (.getfield 443, 3) := by decide +kernel
theorem dX9_writeRow_100 : decode cX9_writeRow 100 = .ok (.ireturn, 1) := by decide +kernel
theorem dX9_writeWord_0 : decode cX9_writeWord 0 = .ok (.iconst 0, 1) := by decide +kernel
theorem dX9_writeWord_1 : decode cX9_writeWord 1 = .ok (.istore_n 2, 1) := by decide +kernel
theorem dX9_writeWord_2 : decode cX9_writeWord 2 = .ok (.iload_n 2, 1) := by decide +kernel
theorem dX9_writeWord_3 : decode cX9_writeWord 3 = .ok (.aload_n 0, 1) := by decide +kernel
theorem dX9_writeWord_4 : decode cX9_writeWord 4 = .ok (.iload_n 1, 1) := by decide +kernel
theorem dX9_writeWord_5 : decode cX9_writeWord 5 = .ok (.invokevirtual 106, 3) := by decide +kernel
theorem dX9_writeWord_8 : decode cX9_writeWord 8 = .ok (.if_icmp .ge 19, 3) := by decide +kernel
theorem dX9_writeWord_11 : decode cX9_writeWord 11 = .ok (.aload_n 0, 1) := by decide +kernel
theorem dX9_writeWord_12 : decode cX9_writeWord 12 = .ok (.aload_n 0, 1) := by decide +kernel
theorem dX9_writeWord_13 : decode cX9_writeWord 13 = .ok (.iload_n 1, 1) := by decide +kernel
theorem dX9_writeWord_14 : decode cX9_writeWord 14 = .ok (.iload_n 2, 1) := by decide +kernel
theorem dX9_writeWord_15 : decode cX9_writeWord 15 = .ok (.invokevirtual 132, 3) := by decide +kernel
theorem dX9_writeWord_18 : decode cX9_writeWord 18 = .ok (.invokevirtual 449, 3) := by decide +kernel
theorem dX9_writeWord_21 : decode cX9_writeWord 21 = .ok (.iinc 2 1, 3) := by decide +kernel
theorem dX9_writeWord_24 : decode cX9_writeWord 24 = .ok (.goto (-22), 3) := by decide +kernel
theorem dX9_writeWord_27 : decode cX9_writeWord 27 = .ok (.return_, 1) := by decide +kernel
theorem dX9_writePart_0 : decode cX9_writePart 0 = .ok (.aload_n 0, 1) := by decide +kernel
theorem dX9_writePart_1 : decode cX9_writePart 1 = .ok (.aload_n 0, 1) := by decide +kernel
theorem dX9_writePart_2 : decode cX9_writePart 2 = .ok (.iload_n 1, 1) := by decide +kernel
theorem dX9_writePart_3 : decode cX9_writePart 3 = .ok (.invokevirtual 344, 3) := by decide +kernel
theorem dX9_writePart_6 : decode cX9_writePart 6 = .ok (.invokevirtual 191, 3) := by decide +kernel
theorem dX9_writePart_9 : decode cX9_writePart 9 = .ok (.ifCond .ne 5, 3) := by decide +kernel
theorem dX9_writePart_12 : decode cX9_writePart 12 = .ok (.iconst 0, 1) := by decide +kernel
theorem dX9_writePart_13 : decode cX9_writePart 13 = .ok (.ireturn, 1) := by decide +kernel
theorem dX9_writePart_14 : decode cX9_writePart 14 = .ok (.aload_n 0, 1) := by decide +kernel
theorem dX9_writePart_15 : decode cX9_writePart 15 = .ok (.invokevirtual 179, 3) := by decide +kernel
theorem dX9_writePart_18 : decode cX9_writePart 18 = .ok (.istore_n 2, 1) := by decide +kernel
theorem dX9_writePart_19 : decode cX9_writePart 19 = .ok (.aload_n 0, 1) := by decide +kernel
theorem dX9_writePart_20 : decode cX9_writePart 20 = .ok (.iconst 0, 1) := by decide +kernel
theorem dX9_writePart_21 : decode cX9_writePart 21 = .ok (.putfield 443, 3) := by decide +kernel
theorem dX9_writePart_24 : decode cX9_writePart 24 = .ok (.aload_n 0, 1) := by decide +kernel
theorem dX9_writePart_25 : decode cX9_writePart 25 = .ok (.iload_n 1, 1) := by decide +kernel
theorem dX9_writePart_26 : decode cX9_writePart 26 = .ok (.invokevirtual 90, 3) := by decide +kernel
theorem dX9_writePart_29 : decode cX9_writePart 29 = .ok (.istore_n 3, 1) := by decide +kernel
theorem dX9_writePart_30 : decode cX9_writePart 30 = .ok (.iload_n 3, 1) := by decide +kernel
theorem dX9_writePart_31 : decode cX9_writePart 31 = .ok (.istore 4, 2) := by decide +kernel
theorem dX9_writePart_33 : decode cX9_writePart 33 = .ok (.iload 4, 2) := by decide +kernel
theorem dX9_writePart_35 : decode cX9_writePart 35 = .ok (.iload_n 3, 1) := by decide +kernel
theorem dX9_writePart_36 : decode cX9_writePart 36 = .ok (.aload_n 0, 1) := by decide +kernel
theorem dX9_writePart_37 : decode cX9_writePart 37 = .ok (.iload_n 1, 1) := by decide +kernel
theorem dX9_writePart_38 : decode cX9_writePart 38 = .ok (.invokevirtual 86, 3) := by decide +kernel
theorem dX9_writePart_41 : decode cX9_writePart 41 = .ok (.iadd, 1) := by decide +kernel
theorem dX9_writePart_42 : decode cX9_writePart 42 = .ok (.if_icmp .ge 54, 3) := by decide +kernel
theorem dX9_writePart_45 : decode cX9_writePart 45 = .ok (.iload 4, 2) := by decide +kernel
theorem dX9_writePart_47 : decode cX9_writePart 47 = .ok (.iload_n 3, 1) := by decide +kernel
theorem dX9_writePart_48 : decode cX9_writePart 48 = .ok (.if_icmp .le 9, 3) := by decide +kernel
theorem dX9_writePart_51 : decode cX9_writePart 51 = .ok (.aload_n 0, 1) := by decide +kernel
theorem dX9_writePart_52 : decode cX9_writePart 52 = .ok (.bipush 32, 2) := by decide +kernel
theorem dX9_writePart_54 : decode cX9_writePart 54 = .ok (.invokevirtual 449, 3) := by decide +kernel
theorem dX9_writePart_57 : decode cX9_writePart 57 = .ok (.iload 4, 2) := by decide +kernel
theorem dX9_writePart_59 : decode cX9_writePart 59 = .ok (.iload_n 2, 1) := by decide +kernel
theorem dX9_writePart_60 : decode cX9_writePart 60 = .ok (.if_icmp .ge 12, 3) := by decide +kernel
theorem dX9_writePart_63 : decode cX9_writePart 63 = .ok (.aload_n 0, 1) := by decide +kernel
theorem dX9_writePart_64 : decode cX9_writePart 64 = .ok (.iload 4, 2) := by decide +kernel
theorem dX9_writePart_66 : decode cX9_writePart 66 = .ok (.invokevirtual 452, 3) := by decide +kernel
theorem dX9_writePart_69 : decode cX9_writePart 69 = .ok (.goto 21, 3) := by decide +kernel
theorem dX9_writePart_72 : decode cX9_writePart 72 = .ok (.aload_n 0, 1) := by decide +kernel
theorem dX9_writePart_73 : decode cX9_writePart 73 = .ok (.bipush 91, 2) := by decide +kernel
theorem dX9_writePart_75 : decode cX9_writePart 75 = .ok (.invokevirtual 449, 3) := by decide +kernel
theorem dX9_writePart_78 : decode cX9_writePart 78 = .ok (.aload_n 0, 1) := by decide +kernel
theorem dX9_writePart_79 : decode cX9_writePart 79 = .ok (.iload 4, 2) := by decide +kernel
theorem dX9_writePart_81 : decode cX9_writePart 81 = .ok (.invokevirtual 452, 3) := by decide +kernel
theorem dX9_writePart_84 : decode cX9_writePart 84 = .ok (.aload_n 0, 1) := by decide +kernel
theorem dX9_writePart_85 : decode cX9_writePart 85 = .ok (.bipush 93, 2) := by decide +kernel
theorem dX9_writePart_87 : decode cX9_writePart 87 = .ok (.invokevirtual 449, 3) := by decide +kernel
theorem dX9_writePart_90 : decode cX9_writePart 90 = .ok (.iinc 4 1, 3) := by decide +kernel
theorem dX9_writePart_93 : decode cX9_writePart 93 = .ok (.goto (-60), 3) := by decide +kernel
theorem dX9_writePart_96 : decode cX9_writePart 96 = .ok (.aload_n 0, 1) := by decide +kernel
theorem dX9_writePart_97 : decode cX9_writePart 97 = .ok (.getfield 443, 3) := by decide +kernel
theorem dX9_writePart_100 : decode cX9_writePart 100 = .ok (.ireturn, 1) := by decide +kernel
theorem dX9_outputByte_0 : decode cX9_outputByte 0 = .ok (.aload_n 0, 1) := by decide +kernel
theorem dX9_outputByte_1 : decode cX9_outputByte 1 = .ok (.iload_n 1, 1) := by decide +kernel
theorem dX9_outputByte_2 : decode cX9_outputByte 2 = .ok (.i2l, 1) := by decide +kernel
theorem dX9_outputByte_3 : decode cX9_outputByte 3 = .ok (.lconst 0, 1) := by decide +kernel
theorem dX9_outputByte_4 : decode cX9_outputByte 4 = .ok (.aload_n 0, 1) := by decide +kernel
theorem dX9_outputByte_5 : decode cX9_outputByte 5 = .ok (.getfield 443, 3) := by decide +kernel
theorem dX9_outputByte_8 : decode cX9_outputByte 8 = .ok (.iconst 1, 1) := by decide +kernel
theorem dX9_outputByte_9 : decode cX9_outputByte 9 = .ok (.isub, 1) := by decide +kernel
theorem dX9_outputByte_10 : decode cX9_outputByte 10 = .ok (.i2l, 1) := by decide +kernel
theorem dX9_outputByte_11 : decode cX9_outputByte 11 = .ok (.invokestatic 75, 3) := by decide +kernel
theorem dX9_outputByte_14 : decode cX9_outputByte 14 = .ok (.invokevirtual 191, 3) := by decide +kernel
theorem dX9_outputByte_17 : decode cX9_outputByte 17 = .ok (.ifCond .eq 12, 3) := by decide +kernel
theorem dX9_outputByte_20 : decode cX9_outputByte 20 = .ok (.aload_n 0, 1) := by decide +kernel
theorem dX9_outputByte_21 : decode cX9_outputByte 21 = .ok (.getfield 65, 3) := by decide +kernel
theorem dX9_outputByte_24 : decode cX9_outputByte 24 = .ok (.iload_n 1, 1) := by decide +kernel
theorem dX9_outputByte_25 : decode cX9_outputByte 25 = .ok (.baload, 1) := by decide +kernel
theorem dX9_outputByte_26 : decode cX9_outputByte 26 = .ok (.goto 4, 3) := by decide +kernel
theorem dX9_outputByte_29 : decode cX9_outputByte 29 = .ok (.iconst 0, 1) := by decide +kernel
theorem dX9_outputByte_30 : decode cX9_outputByte 30 = .ok (.ireturn, 1) := by decide +kernel
theorem dJ6_bitCount_0f7a4_0 : decode cJ6_bitCount_0f7a4 0 = .ok (.iload_n 0, 1) := by decide +kernel
theorem dJ6_bitCount_0f7a4_1 : decode cJ6_bitCount_0f7a4 1 = .ok (.iload_n 0, 1) := by decide +kernel
theorem dJ6_bitCount_0f7a4_2 : decode cJ6_bitCount_0f7a4 2 = .ok (.iconst 1, 1) := by decide +kernel
theorem dJ6_bitCount_0f7a4_3 : decode cJ6_bitCount_0f7a4 3 = .ok (.iushr, 1) := by decide +kernel
theorem dJ6_bitCount_0f7a4_4 : decode cJ6_bitCount_0f7a4 4 = .ok (.ldc_w 265, 3) := by decide +kernel
theorem dJ6_bitCount_0f7a4_7 : decode cJ6_bitCount_0f7a4 7 = .ok (.iand, 1) := by decide +kernel
theorem dJ6_bitCount_0f7a4_8 : decode cJ6_bitCount_0f7a4 8 = .ok (.isub, 1) := by decide +kernel
theorem dJ6_bitCount_0f7a4_9 : decode cJ6_bitCount_0f7a4 9 = .ok (.istore_n 0, 1) := by decide +kernel
theorem dJ6_bitCount_0f7a4_10 : decode cJ6_bitCount_0f7a4 10 = .ok (.iload_n 0, 1) := by decide +kernel
theorem dJ6_bitCount_0f7a4_11 : decode cJ6_bitCount_0f7a4 11 = .ok (.ldc_w 266, 3) := by decide +kernel
theorem dJ6_bitCount_0f7a4_14 : decode cJ6_bitCount_0f7a4 14 = .ok (.iand, 1) := by decide +kernel
theorem dJ6_bitCount_0f7a4_15 : decode cJ6_bitCount_0f7a4 15 = .ok (.iload_n 0, 1) := by decide +kernel
theorem dJ6_bitCount_0f7a4_16 : decode cJ6_bitCount_0f7a4 16 = .ok (.iconst 2, 1) := by decide +kernel
theorem dJ6_bitCount_0f7a4_17 : decode cJ6_bitCount_0f7a4 17 = .ok (.iushr, 1) := by decide +kernel
theorem dJ6_bitCount_0f7a4_18 : decode cJ6_bitCount_0f7a4 18 = .ok (.ldc_w 266, 3) := by decide +kernel
theorem dJ6_bitCount_0f7a4_21 : decode cJ6_bitCount_0f7a4 21 = .ok (.iand, 1) := by decide +kernel
theorem dJ6_bitCount_0f7a4_22 : decode cJ6_bitCount_0f7a4 22 = .ok (.iadd, 1) := by decide +kernel
theorem dJ6_bitCount_0f7a4_23 : decode cJ6_bitCount_0f7a4 23 = .ok (.istore_n 0, 1) := by decide +kernel
theorem dJ6_bitCount_0f7a4_24 : decode cJ6_bitCount_0f7a4 24 = .ok (.iload_n 0, 1) := by decide +kernel
theorem dJ6_bitCount_0f7a4_25 : decode cJ6_bitCount_0f7a4 25 = .ok (.iload_n 0, 1) := by decide +kernel
theorem dJ6_bitCount_0f7a4_26 : decode cJ6_bitCount_0f7a4 26 = .ok (.iconst 4, 1) := by decide +kernel
theorem dJ6_bitCount_0f7a4_27 : decode cJ6_bitCount_0f7a4 27 = .ok (.iushr, 1) := by decide +kernel
theorem dJ6_bitCount_0f7a4_28 : decode cJ6_bitCount_0f7a4 28 = .ok (.iadd, 1) := by decide +kernel
theorem dJ6_bitCount_0f7a4_29 : decode cJ6_bitCount_0f7a4 29 = .ok (.ldc_w 267, 3) := by decide +kernel
theorem dJ6_bitCount_0f7a4_32 : decode cJ6_bitCount_0f7a4 32 = .ok (.iand, 1) := by decide +kernel
theorem dJ6_bitCount_0f7a4_33 : decode cJ6_bitCount_0f7a4 33 = .ok (.istore_n 0, 1) := by decide +kernel
theorem dJ6_bitCount_0f7a4_34 : decode cJ6_bitCount_0f7a4 34 = .ok (.iload_n 0, 1) := by decide +kernel
theorem dJ6_bitCount_0f7a4_35 : decode cJ6_bitCount_0f7a4 35 = .ok (.iload_n 0, 1) := by decide +kernel
theorem dJ6_bitCount_0f7a4_36 : decode cJ6_bitCount_0f7a4 36 = .ok (.bipush 8, 2) := by decide +kernel
theorem dJ6_bitCount_0f7a4_38 : decode cJ6_bitCount_0f7a4 38 = .ok (.iushr, 1) := by decide +kernel
theorem dJ6_bitCount_0f7a4_39 : decode cJ6_bitCount_0f7a4 39 = .ok (.iadd, 1) := by decide +kernel
theorem dJ6_bitCount_0f7a4_40 : decode cJ6_bitCount_0f7a4 40 = .ok (.istore_n 0, 1) := by decide +kernel
theorem dJ6_bitCount_0f7a4_41 : decode cJ6_bitCount_0f7a4 41 = .ok (.iload_n 0, 1) := by decide +kernel
theorem dJ6_bitCount_0f7a4_42 : decode cJ6_bitCount_0f7a4 42 = .ok (.iload_n 0, 1) := by decide +kernel
theorem dJ6_bitCount_0f7a4_43 : decode cJ6_bitCount_0f7a4 43 = .ok (.bipush 16, 2) := by decide +kernel
theorem dJ6_bitCount_0f7a4_45 : decode cJ6_bitCount_0f7a4 45 = .ok (.iushr, 1) := by decide +kernel
theorem dJ6_bitCount_0f7a4_46 : decode cJ6_bitCount_0f7a4 46 = .ok (.iadd, 1) := by decide +kernel
theorem dJ6_bitCount_0f7a4_47 : decode cJ6_bitCount_0f7a4 47 = .ok (.istore_n 0, 1) := by decide +kernel
theorem dJ6_bitCount_0f7a4_48 : decode cJ6_bitCount_0f7a4 48 = .ok (.iload_n 0, 1) := by decide +kernel
theorem dJ6_bitCount_0f7a4_49 : decode cJ6_bitCount_0f7a4 49 = .ok (.bipush 63, 2) := by decide +kernel
theorem dJ6_bitCount_0f7a4_51 : decode cJ6_bitCount_0f7a4 51 = .ok (.iand, 1) := by decide +kernel
theorem dJ6_bitCount_0f7a4_52 : decode cJ6_bitCount_0f7a4 52 = .ok (.ireturn, 1) := by decide +kernel
theorem dJ9_max_7cf53_0 : decode cJ9_max_7cf53 0 = .ok (.iload_n 0, 1) := by decide +kernel
theorem dJ9_max_7cf53_1 : decode cJ9_max_7cf53 1 = .ok (.iload_n 1, 1) := by decide +kernel
theorem dJ9_max_7cf53_2 : decode cJ9_max_7cf53 2 = .ok (.if_icmp .lt 7, 3) := by decide +kernel
theorem dJ9_max_7cf53_5 : decode cJ9_max_7cf53 5 = .ok (.iload_n 0, 1) := by decide +kernel
theorem dJ9_max_7cf53_6 : decode cJ9_max_7cf53 6 = .ok (.goto 4, 3) := by decide +kernel
theorem dJ9_max_7cf53_9 : decode cJ9_max_7cf53 9 = .ok (.iload_n 1, 1) := by decide +kernel
theorem dJ9_max_7cf53_10 : decode cJ9_max_7cf53 10 = .ok (.ireturn, 1) := by decide +kernel
theorem dJ9_min_7cf53_0 : decode cJ9_min_7cf53 0 = .ok (.iload_n 0, 1) := by decide +kernel
theorem dJ9_min_7cf53_1 : decode cJ9_min_7cf53 1 = .ok (.iload_n 1, 1) := by decide +kernel
theorem dJ9_min_7cf53_2 : decode cJ9_min_7cf53 2 = .ok (.if_icmp .gt 7, 3) := by decide +kernel
theorem dJ9_min_7cf53_5 : decode cJ9_min_7cf53 5 = .ok (.iload_n 0, 1) := by decide +kernel
theorem dJ9_min_7cf53_6 : decode cJ9_min_7cf53 6 = .ok (.goto 4, 3) := by decide +kernel
theorem dJ9_min_7cf53_9 : decode cJ9_min_7cf53 9 = .ok (.iload_n 1, 1) := by decide +kernel
theorem dJ9_min_7cf53_10 : decode cJ9_min_7cf53 10 = .ok (.ireturn, 1) := by decide +kernel
theorem dJ0_length_8abf5_0 : decode cJ0_length_8abf5 0 = .ok (.aload_n 0, 1) := by decide +kernel
theorem dJ0_length_8abf5_1 : decode cJ0_length_8abf5 1 = .ok (.getfield 9, 3) := by decide +kernel
theorem dJ0_length_8abf5_4 : decode cJ0_length_8abf5 4 = .ok (.arraylength, 1) := by decide +kernel
theorem dJ0_length_8abf5_5 : decode cJ0_length_8abf5 5 = .ok (.aload_n 0, 1) := by decide +kernel
theorem dJ0_length_8abf5_6 : decode cJ0_length_8abf5 6 = .ok (.invokevirtual 335, 3) := by decide +kernel
theorem dJ0_length_8abf5_9 : decode cJ0_length_8abf5 9 = .ok (.ishr, 1) := by decide +kernel
theorem dJ0_length_8abf5_10 : decode cJ0_length_8abf5 10 = .ok (.ireturn, 1) := by decide +kernel
theorem dJ0_charAt_5068e_0 : decode cJ0_charAt_5068e 0 = .ok (.aload_n 0, 1) := by decide +kernel
theorem dJ0_charAt_5068e_1 : decode cJ0_charAt_5068e 1 = .ok (.invokevirtual 492, 3) := by decide +kernel
theorem dJ0_charAt_5068e_4 : decode cJ0_charAt_5068e 4 = .ok (.ifCond .eq 12, 3) := by decide +kernel
theorem dJ0_charAt_5068e_7 : decode cJ0_charAt_5068e 7 = .ok (.aload_n 0, 1) := by decide +kernel
theorem dJ0_charAt_5068e_8 : decode cJ0_charAt_5068e 8 = .ok (.getfield 9, 3) := by decide +kernel
theorem dJ0_charAt_5068e_11 : decode cJ0_charAt_5068e 11 = .ok (.iload_n 1, 1) := by decide +kernel
theorem dJ0_charAt_5068e_12 : decode cJ0_charAt_5068e 12 = .ok (.invokestatic 495, 3) := by decide +kernel
theorem dJ0_charAt_5068e_15 : decode cJ0_charAt_5068e 15 = .ok (.ireturn, 1) := by decide +kernel
theorem dJ0_charAt_5068e_16 : decode cJ0_charAt_5068e 16 = .ok (.aload_n 0, 1) := by decide +kernel
theorem dJ0_charAt_5068e_17 : decode cJ0_charAt_5068e 17 = .ok (.getfield 9, 3) := by decide +kernel
theorem dJ0_charAt_5068e_20 : decode cJ0_charAt_5068e 20 = .ok (.iload_n 1, 1) := by decide +kernel
theorem dJ0_charAt_5068e_21 : decode cJ0_charAt_5068e 21 = .ok (.invokestatic 498, 3) := by decide +kernel
theorem dJ0_charAt_5068e_24 : decode cJ0_charAt_5068e 24 = .ok (.ireturn, 1) := by decide +kernel
theorem dJ0_coder_7d493_0 : decode cJ0_coder_7d493 0 = .ok (.getstatic 38, 3) := by decide +kernel
theorem dJ0_coder_7d493_3 : decode cJ0_coder_7d493 3 = .ok (.ifCond .eq 10, 3) := by decide +kernel
theorem dJ0_coder_7d493_6 : decode cJ0_coder_7d493 6 = .ok (.aload_n 0, 1) := by decide +kernel
theorem dJ0_coder_7d493_7 : decode cJ0_coder_7d493 7 = .ok (.getfield 15, 3) := by decide +kernel
theorem dJ0_coder_7d493_10 : decode cJ0_coder_7d493 10 = .ok (.goto 4, 3) := by decide +kernel
theorem dJ0_coder_7d493_13 : decode cJ0_coder_7d493 13 = .ok (.iconst 1, 1) := by decide +kernel
theorem dJ0_coder_7d493_14 : decode cJ0_coder_7d493 14 = .ok (.ireturn, 1) := by decide +kernel
theorem dJ0_isLatin1_aae02_0 : decode cJ0_isLatin1_aae02 0 = .ok (.getstatic 38, 3) := by decide +kernel
theorem dJ0_isLatin1_aae02_3 : decode cJ0_isLatin1_aae02 3 = .ok (.ifCond .eq 14, 3) := by decide +kernel
theorem dJ0_isLatin1_aae02_6 : decode cJ0_isLatin1_aae02 6 = .ok (.aload_n 0, 1) := by decide +kernel
theorem dJ0_isLatin1_aae02_7 : decode cJ0_isLatin1_aae02 7 = .ok (.getfield 15, 3) := by decide +kernel
theorem dJ0_isLatin1_aae02_10 : decode cJ0_isLatin1_aae02 10 = .ok (.ifCond .ne 7, 3) := by decide +kernel
theorem dJ0_isLatin1_aae02_13 : decode cJ0_isLatin1_aae02 13 = .ok (.iconst 1, 1) := by decide +kernel
theorem dJ0_isLatin1_aae02_14 : decode cJ0_isLatin1_aae02 14 = .ok (.goto 4, 3) := by decide +kernel
theorem dJ0_isLatin1_aae02_17 : decode cJ0_isLatin1_aae02 17 = .ok (.iconst 0, 1) := by decide +kernel
theorem dJ0_isLatin1_aae02_18 : decode cJ0_isLatin1_aae02 18 = .ok (.ireturn, 1) := by decide +kernel
theorem dJ0_checkIndex_df160_0 : decode cJ0_checkIndex_df160 0 = .ok (.iload_n 0, 1) := by decide +kernel
theorem dJ0_checkIndex_df160_1 : decode cJ0_checkIndex_df160 1 = .ok (.iload_n 1, 1) := by decide +kernel
theorem dJ0_checkIndex_df160_2 : decode cJ0_checkIndex_df160 2 = .ok (.getstatic 1053, 3) := by decide +kernel
theorem dJ0_checkIndex_df160_5 : decode cJ0_checkIndex_df160 5 = .ok (.invokestatic 1059, 3) := by decide +kernel
theorem dJ0_checkIndex_df160_8 : decode cJ0_checkIndex_df160 8 = .ok (.pop, 1) := by decide +kernel
theorem dJ0_checkIndex_df160_9 : decode cJ0_checkIndex_df160 9 = .ok (.return_, 1) := by decide +kernel
theorem dJ1_charAt_3b067_0 : decode cJ1_charAt_3b067 0 = .ok (.iload_n 1, 1) := by decide +kernel
theorem dJ1_charAt_3b067_1 : decode cJ1_charAt_3b067 1 = .ok (.aload_n 0, 1) := by decide +kernel
theorem dJ1_charAt_3b067_2 : decode cJ1_charAt_3b067 2 = .ok (.arraylength, 1) := by decide +kernel
theorem dJ1_charAt_3b067_3 : decode cJ1_charAt_3b067 3 = .ok (.invokestatic 9, 3) := by decide +kernel
theorem dJ1_charAt_3b067_6 : decode cJ1_charAt_3b067 6 = .ok (.aload_n 0, 1) := by decide +kernel
theorem dJ1_charAt_3b067_7 : decode cJ1_charAt_3b067 7 = .ok (.iload_n 1, 1) := by decide +kernel
theorem dJ1_charAt_3b067_8 : decode cJ1_charAt_3b067 8 = .ok (.baload, 1) := by decide +kernel
theorem dJ1_charAt_3b067_9 : decode cJ1_charAt_3b067 9 = .ok (.sipush 255, 3) := by decide +kernel
theorem dJ1_charAt_3b067_12 : decode cJ1_charAt_3b067 12 = .ok (.iand, 1) := by decide +kernel
theorem dJ1_charAt_3b067_13 : decode cJ1_charAt_3b067 13 = .ok (.i2c, 1) := by decide +kernel
theorem dJ1_charAt_3b067_14 : decode cJ1_charAt_3b067 14 = .ok (.ireturn, 1) := by decide +kernel
theorem dJ2_getChar_3b067_0 : decode cJ2_getChar_3b067 0 = .ok (.getstatic 44, 3) := by decide +kernel
theorem dJ2_getChar_3b067_3 : decode cJ2_getChar_3b067 3 = .ok (.ifCond .ne 25, 3) := by decide +kernel
theorem dJ2_getChar_3b067_6 : decode cJ2_getChar_3b067 6 = .ok (.iload_n 1, 1) := by decide +kernel
theorem dJ2_getChar_3b067_7 : decode cJ2_getChar_3b067 7 = .ok (.ifCond .lt 11, 3) := by decide +kernel
theorem dJ2_getChar_3b067_10 : decode cJ2_getChar_3b067 10 = .ok (.iload_n 1, 1) := by decide +kernel
theorem dJ2_getChar_3b067_11 : decode cJ2_getChar_3b067 11 = .ok (.aload_n 0, 1) := by decide +kernel
theorem dJ2_getChar_3b067_12 : decode cJ2_getChar_3b067 12 = .ok (.invokestatic 48, 3) := by decide +kernel
theorem dJ2_getChar_3b067_15 : decode cJ2_getChar_3b067 15 = .ok (.if_icmp .lt 13, 3) := by decide +kernel
theorem dJ2_getChar_3b067_18 : decode cJ2_getChar_3b067 18 = .ok (.new 52, 3) := by decide +kernel
theorem dJ2_getChar_3b067_21 : decode cJ2_getChar_3b067 21 = .ok (.dup, 1) := by decide +kernel
theorem dJ2_getChar_3b067_22 : decode cJ2_getChar_3b067 22 = .ok (.ldc 54, 2) := by decide +kernel
theorem dJ2_getChar_3b067_24 : decode cJ2_getChar_3b067 24 = .ok (.invokespecial 56, 3) := by decide +kernel
theorem dJ2_getChar_3b067_27 : decode cJ2_getChar_3b067 27 = .ok (.athrow, 1) := by decide +kernel
theorem dJ2_getChar_3b067_28 : decode cJ2_getChar_3b067 28 = .ok (.iload_n 1, 1) := by decide +kernel
theorem dJ2_getChar_3b067_29 : decode cJ2_getChar_3b067 29 = .ok (.iconst 1, 1) := by decide +kernel
theorem dJ2_getChar_3b067_30 : decode cJ2_getChar_3b067 30 = .ok (.ishl, 1) := by decide +kernel
theorem dJ2_getChar_3b067_31 : decode cJ2_getChar_3b067 31 = .ok (.istore_n 1, 1) := by decide +kernel
theorem dJ2_getChar_3b067_32 : decode cJ2_getChar_3b067 32 = .ok (.aload_n 0, 1) := by decide +kernel
theorem dJ2_getChar_3b067_33 : decode cJ2_getChar_3b067 33 = .ok (.iload_n 1, 1) := by decide +kernel
theorem dJ2_getChar_3b067_34 : decode cJ2_getChar_3b067 34 = .ok (.iinc 1 1, 3) := by decide +kernel
theorem dJ2_getChar_3b067_37 : decode cJ2_getChar_3b067 37 = .ok (.baload, 1) := by decide +kernel
theorem dJ2_getChar_3b067_38 : decode cJ2_getChar_3b067 38 = .ok (.sipush 255, 3) := by decide +kernel
theorem dJ2_getChar_3b067_41 : decode cJ2_getChar_3b067 41 = .ok (.iand, 1) := by decide +kernel
theorem dJ2_getChar_3b067_42 : decode cJ2_getChar_3b067 42 = .ok (.getstatic 59, 3) := by decide +kernel
theorem dJ2_getChar_3b067_45 : decode cJ2_getChar_3b067 45 = .ok (.ishl, 1) := by decide +kernel
theorem dJ2_getChar_3b067_46 : decode cJ2_getChar_3b067 46 = .ok (.aload_n 0, 1) := by decide +kernel
theorem dJ2_getChar_3b067_47 : decode cJ2_getChar_3b067 47 = .ok (.iload_n 1, 1) := by decide +kernel
theorem dJ2_getChar_3b067_48 : decode cJ2_getChar_3b067 48 = .ok (.baload, 1) := by decide +kernel
theorem dJ2_getChar_3b067_49 : decode cJ2_getChar_3b067 49 = .ok (.sipush 255, 3) := by decide +kernel
theorem dJ2_getChar_3b067_52 : decode cJ2_getChar_3b067 52 = .ok (.iand, 1) := by decide +kernel
theorem dJ2_getChar_3b067_53 : decode cJ2_getChar_3b067 53 = .ok (.getstatic 63, 3) := by decide +kernel
theorem dJ2_getChar_3b067_56 : decode cJ2_getChar_3b067 56 = .ok (.ishl, 1) := by decide +kernel
theorem dJ2_getChar_3b067_57 : decode cJ2_getChar_3b067 57 = .ok (.ior, 1) := by decide +kernel
theorem dJ2_getChar_3b067_58 : decode cJ2_getChar_3b067 58 = .ok (.i2c, 1) := by decide +kernel
theorem dJ2_getChar_3b067_59 : decode cJ2_getChar_3b067 59 = .ok (.ireturn, 1) := by decide +kernel
theorem dJ2_length_9d52b_0 : decode cJ2_length_9d52b 0 = .ok (.aload_n 0, 1) := by decide +kernel
theorem dJ2_length_9d52b_1 : decode cJ2_length_9d52b 1 = .ok (.arraylength, 1) := by decide +kernel
theorem dJ2_length_9d52b_2 : decode cJ2_length_9d52b 2 = .ok (.iconst 1, 1) := by decide +kernel
theorem dJ2_length_9d52b_3 : decode cJ2_length_9d52b 3 = .ok (.ishr, 1) := by decide +kernel
theorem dJ2_length_9d52b_4 : decode cJ2_length_9d52b 4 = .ok (.ireturn, 1) := by decide +kernel
theorem dJ2_charAt_3b067_0 : decode cJ2_charAt_3b067 0 = .ok (.iload_n 1, 1) := by decide +kernel
theorem dJ2_charAt_3b067_1 : decode cJ2_charAt_3b067 1 = .ok (.aload_n 0, 1) := by decide +kernel
theorem dJ2_charAt_3b067_2 : decode cJ2_charAt_3b067 2 = .ok (.invokestatic 67, 3) := by decide +kernel
theorem dJ2_charAt_3b067_5 : decode cJ2_charAt_3b067 5 = .ok (.aload_n 0, 1) := by decide +kernel
theorem dJ2_charAt_3b067_6 : decode cJ2_charAt_3b067 6 = .ok (.iload_n 1, 1) := by decide +kernel
theorem dJ2_charAt_3b067_7 : decode cJ2_charAt_3b067 7 = .ok (.invokestatic 71, 3) := by decide +kernel
theorem dJ2_charAt_3b067_10 : decode cJ2_charAt_3b067 10 = .ok (.ireturn, 1) := by decide +kernel
theorem dJ2_checkIndex_2214a_0 : decode cJ2_checkIndex_2214a 0 = .ok (.iload_n 0, 1) := by decide +kernel
theorem dJ2_checkIndex_2214a_1 : decode cJ2_checkIndex_2214a 1 = .ok (.aload_n 1, 1) := by decide +kernel
theorem dJ2_checkIndex_2214a_2 : decode cJ2_checkIndex_2214a 2 = .ok (.invokestatic 48, 3) := by decide +kernel
theorem dJ2_checkIndex_2214a_5 : decode cJ2_checkIndex_2214a 5 = .ok (.invokestatic 414, 3) := by decide +kernel
theorem dJ2_checkIndex_2214a_8 : decode cJ2_checkIndex_2214a 8 = .ok (.return_, 1) := by decide +kernel
theorem dJ3_checkIndex_8e157_0 : decode cJ3_checkIndex_8e157 0 = .ok (.iload_n 0, 1) := by decide +kernel
theorem dJ3_checkIndex_8e157_1 : decode cJ3_checkIndex_8e157 1 = .ok (.ifCond .lt 8, 3) := by decide +kernel
theorem dJ3_checkIndex_8e157_4 : decode cJ3_checkIndex_8e157 4 = .ok (.iload_n 0, 1) := by decide +kernel
theorem dJ3_checkIndex_8e157_5 : decode cJ3_checkIndex_8e157 5 = .ok (.iload_n 1, 1) := by decide +kernel
theorem dJ3_checkIndex_8e157_6 : decode cJ3_checkIndex_8e157 6 = .ok (.if_icmp .lt 10, 3) := by decide +kernel
theorem dJ3_checkIndex_8e157_9 : decode cJ3_checkIndex_8e157 9 = .ok (.aload_n 2, 1) := by decide +kernel
theorem dJ3_checkIndex_8e157_10 : decode cJ3_checkIndex_8e157 10 = .ok (.iload_n 0, 1) := by decide +kernel
theorem dJ3_checkIndex_8e157_11 : decode cJ3_checkIndex_8e157 11 = .ok (.iload_n 1, 1) := by decide +kernel
theorem dJ3_checkIndex_8e157_12 : decode cJ3_checkIndex_8e157 12 = .ok (.invokestatic 95, 3) := by decide +kernel
theorem dJ3_checkIndex_8e157_15 : decode cJ3_checkIndex_8e157 15 = .ok (.athrow, 1) := by decide +kernel
theorem dJ3_checkIndex_8e157_16 : decode cJ3_checkIndex_8e157 16 = .ok (.iload_n 0, 1) := by decide +kernel
theorem dJ3_checkIndex_8e157_17 : decode cJ3_checkIndex_8e157 17 = .ok (.ireturn, 1) := by decide +kernel
theorem dL_append_0 : decode cL_append 0 = .ok (.aload 6, 2) := by decide +kernel
theorem dL_append_2 : decode cL_append 2 = .ok (.iconst 0, 1) := by decide +kernel
theorem dL_append_3 : decode cL_append 3 = .ok (.aload_n 0, 1) := by decide +kernel
theorem dL_append_4 : decode cL_append 4 = .ok (.iload_n 1, 1) := by decide +kernel
theorem dL_append_5 : decode cL_append 5 = .ok (.iload_n 2, 1) := by decide +kernel
theorem dL_append_6 : decode cL_append 6 = .ok (.iload_n 3, 1) := by decide +kernel
theorem dL_append_7 : decode cL_append 7 = .ok (.iload 4, 2) := by decide +kernel
theorem dL_append_9 : decode cL_append 9 = .ok (.iload 5, 2) := by decide +kernel
theorem dL_append_11 : decode cL_append 11 = .ok (.invokevirtual 7, 3) := by decide +kernel
theorem dL_append_14 : decode cL_append 14 = .ok (.i2l, 1) := by decide +kernel
theorem dL_append_15 : decode cL_append 15 = .ok (.lastore, 1) := by decide +kernel
theorem dL_append_16 : decode cL_append 16 = .ok (.goto 7, 3) := by decide +kernel
theorem dL_append_19 : decode cL_append 19 = .ok (.astore 7, 2) := by decide +kernel
theorem dL_append_21 : decode cL_append 21 = .ok (.iconst 1, 1) := by decide +kernel
theorem dL_append_22 : decode cL_append 22 = .ok (.ireturn, 1) := by decide +kernel
theorem dL_append_23 : decode cL_append 23 = .ok (.iconst 0, 1) := by decide +kernel
theorem dL_append_24 : decode cL_append 24 = .ok (.ireturn, 1) := by decide +kernel
theorem dL_truncate_0 : decode cL_truncate 0 = .ok (.aload_n 0, 1) := by decide +kernel
theorem dL_truncate_1 : decode cL_truncate 1 = .ok (.iload_n 1, 1) := by decide +kernel
theorem dL_truncate_2 : decode cL_truncate 2 = .ok (.invokevirtual 15, 3) := by decide +kernel
theorem dL_truncate_5 : decode cL_truncate 5 = .ok (.goto 6, 3) := by decide +kernel
theorem dL_truncate_8 : decode cL_truncate 8 = .ok (.astore_n 2, 1) := by decide +kernel
theorem dL_truncate_9 : decode cL_truncate 9 = .ok (.iconst 1, 1) := by decide +kernel
theorem dL_truncate_10 : decode cL_truncate 10 = .ok (.ireturn, 1) := by decide +kernel
theorem dL_truncate_11 : decode cL_truncate 11 = .ok (.iconst 0, 1) := by decide +kernel
theorem dL_truncate_12 : decode cL_truncate 12 = .ok (.ireturn, 1) := by decide +kernel
theorem dL_property_0 : decode cL_property 0 = .ok (.aload_n 2, 1) := by decide +kernel
theorem dL_property_1 : decode cL_property 1 = .ok (.iconst 0, 1) := by decide +kernel
theorem dL_property_2 : decode cL_property 2 = .ok (.aload_n 0, 1) := by decide +kernel
theorem dL_property_3 : decode cL_property 3 = .ok (.iload_n 1, 1) := by decide +kernel
theorem dL_property_4 : decode cL_property 4 = .ok (.invokevirtual 21, 3) := by decide +kernel
theorem dL_property_7 : decode cL_property 7 = .ok (.i2l, 1) := by decide +kernel
theorem dL_property_8 : decode cL_property 8 = .ok (.lastore, 1) := by decide +kernel
theorem dL_property_9 : decode cL_property 9 = .ok (.goto 6, 3) := by decide +kernel
theorem dL_property_12 : decode cL_property 12 = .ok (.astore_n 3, 1) := by decide +kernel
theorem dL_property_13 : decode cL_property 13 = .ok (.iconst 1, 1) := by decide +kernel
theorem dL_property_14 : decode cL_property 14 = .ok (.ireturn, 1) := by decide +kernel
theorem dL_property_15 : decode cL_property 15 = .ok (.iconst 0, 1) := by decide +kernel
theorem dL_property_16 : decode cL_property 16 = .ok (.ireturn, 1) := by decide +kernel
theorem dL_part_0 : decode cL_part 0 = .ok (.aload_n 3, 1) := by decide +kernel
theorem dL_part_1 : decode cL_part 1 = .ok (.iconst 0, 1) := by decide +kernel
theorem dL_part_2 : decode cL_part 2 = .ok (.aload_n 0, 1) := by decide +kernel
theorem dL_part_3 : decode cL_part 3 = .ok (.iload_n 1, 1) := by decide +kernel
theorem dL_part_4 : decode cL_part 4 = .ok (.iload_n 2, 1) := by decide +kernel
theorem dL_part_5 : decode cL_part 5 = .ok (.invokevirtual 25, 3) := by decide +kernel
theorem dL_part_8 : decode cL_part 8 = .ok (.i2l, 1) := by decide +kernel
theorem dL_part_9 : decode cL_part 9 = .ok (.lastore, 1) := by decide +kernel
theorem dL_part_10 : decode cL_part 10 = .ok (.goto 11, 3) := by decide +kernel
theorem dL_part_13 : decode cL_part 13 = .ok (.astore 4, 2) := by decide +kernel
theorem dL_part_15 : decode cL_part 15 = .ok (.iconst 1, 1) := by decide +kernel
theorem dL_part_16 : decode cL_part 16 = .ok (.ireturn, 1) := by decide +kernel
theorem dL_part_17 : decode cL_part 17 = .ok (.astore 4, 2) := by decide +kernel
theorem dL_part_19 : decode cL_part 19 = .ok (.iconst 2, 1) := by decide +kernel
theorem dL_part_20 : decode cL_part 20 = .ok (.ireturn, 1) := by decide +kernel
theorem dL_part_21 : decode cL_part 21 = .ok (.iconst 0, 1) := by decide +kernel
theorem dL_part_22 : decode cL_part 22 = .ok (.ireturn, 1) := by decide +kernel
theorem dL_word_0 : decode cL_word 0 = .ok (.aload_n 3, 1) := by decide +kernel
theorem dL_word_1 : decode cL_word 1 = .ok (.iconst 0, 1) := by decide +kernel
theorem dL_word_2 : decode cL_word 2 = .ok (.aload_n 0, 1) := by decide +kernel
theorem dL_word_3 : decode cL_word 3 = .ok (.iload_n 1, 1) := by decide +kernel
theorem dL_word_4 : decode cL_word 4 = .ok (.iload_n 2, 1) := by decide +kernel
theorem dL_word_5 : decode cL_word 5 = .ok (.invokevirtual 31, 3) := by decide +kernel
theorem dL_word_8 : decode cL_word 8 = .ok (.i2l, 1) := by decide +kernel
theorem dL_word_9 : decode cL_word 9 = .ok (.lastore, 1) := by decide +kernel
theorem dL_word_10 : decode cL_word 10 = .ok (.goto 11, 3) := by decide +kernel
theorem dL_word_13 : decode cL_word 13 = .ok (.astore 4, 2) := by decide +kernel
theorem dL_word_15 : decode cL_word 15 = .ok (.iconst 1, 1) := by decide +kernel
theorem dL_word_16 : decode cL_word 16 = .ok (.ireturn, 1) := by decide +kernel
theorem dL_word_17 : decode cL_word 17 = .ok (.astore 4, 2) := by decide +kernel
theorem dL_word_19 : decode cL_word 19 = .ok (.iconst 2, 1) := by decide +kernel
theorem dL_word_20 : decode cL_word 20 = .ok (.ireturn, 1) := by decide +kernel
theorem dL_word_21 : decode cL_word 21 = .ok (.iconst 0, 1) := by decide +kernel
theorem dL_word_22 : decode cL_word 22 = .ok (.ireturn, 1) := by decide +kernel
theorem dL_letter_0 : decode cL_letter 0 = .ok (.aload_n 3, 1) := by decide +kernel
theorem dL_letter_1 : decode cL_letter 1 = .ok (.iconst 0, 1) := by decide +kernel
theorem dL_letter_2 : decode cL_letter 2 = .ok (.aload_n 0, 1) := by decide +kernel
theorem dL_letter_3 : decode cL_letter 3 = .ok (.iload_n 1, 1) := by decide +kernel
theorem dL_letter_4 : decode cL_letter 4 = .ok (.iload_n 2, 1) := by decide +kernel
theorem dL_letter_5 : decode cL_letter 5 = .ok (.invokevirtual 34, 3) := by decide +kernel
theorem dL_letter_8 : decode cL_letter 8 = .ok (.i2l, 1) := by decide +kernel
theorem dL_letter_9 : decode cL_letter 9 = .ok (.lastore, 1) := by decide +kernel
theorem dL_letter_10 : decode cL_letter 10 = .ok (.goto 7, 3) := by decide +kernel
theorem dL_letter_13 : decode cL_letter 13 = .ok (.astore 4, 2) := by decide +kernel
theorem dL_letter_15 : decode cL_letter 15 = .ok (.iconst 1, 1) := by decide +kernel
theorem dL_letter_16 : decode cL_letter 16 = .ok (.ireturn, 1) := by decide +kernel
theorem dL_letter_17 : decode cL_letter 17 = .ok (.iconst 0, 1) := by decide +kernel
theorem dL_letter_18 : decode cL_letter 18 = .ok (.ireturn, 1) := by decide +kernel
theorem dL_cell_0 : decode cL_cell 0 = .ok (.aload_n 3, 1) := by decide +kernel
theorem dL_cell_1 : decode cL_cell 1 = .ok (.iconst 0, 1) := by decide +kernel
theorem dL_cell_2 : decode cL_cell 2 = .ok (.aload_n 0, 1) := by decide +kernel
theorem dL_cell_3 : decode cL_cell 3 = .ok (.iload_n 1, 1) := by decide +kernel
theorem dL_cell_4 : decode cL_cell 4 = .ok (.iload_n 2, 1) := by decide +kernel
theorem dL_cell_5 : decode cL_cell 5 = .ok (.invokevirtual 37, 3) := by decide +kernel
theorem dL_cell_8 : decode cL_cell 8 = .ok (.i2l, 1) := by decide +kernel
theorem dL_cell_9 : decode cL_cell 9 = .ok (.lastore, 1) := by decide +kernel
theorem dL_cell_10 : decode cL_cell 10 = .ok (.goto 7, 3) := by decide +kernel
theorem dL_cell_13 : decode cL_cell 13 = .ok (.astore 4, 2) := by decide +kernel
theorem dL_cell_15 : decode cL_cell 15 = .ok (.iconst 1, 1) := by decide +kernel
theorem dL_cell_16 : decode cL_cell 16 = .ok (.ireturn, 1) := by decide +kernel
theorem dL_cell_17 : decode cL_cell 17 = .ok (.iconst 0, 1) := by decide +kernel
theorem dL_cell_18 : decode cL_cell 18 = .ok (.ireturn, 1) := by decide +kernel
theorem dL_wordAt_0 : decode cL_wordAt 0 = .ok (.aload_n 3, 1) := by decide +kernel
theorem dL_wordAt_1 : decode cL_wordAt 1 = .ok (.iconst 0, 1) := by decide +kernel
theorem dL_wordAt_2 : decode cL_wordAt 2 = .ok (.aload_n 0, 1) := by decide +kernel
theorem dL_wordAt_3 : decode cL_wordAt 3 = .ok (.iload_n 1, 1) := by decide +kernel
theorem dL_wordAt_4 : decode cL_wordAt 4 = .ok (.iload_n 2, 1) := by decide +kernel
theorem dL_wordAt_5 : decode cL_wordAt 5 = .ok (.invokevirtual 40, 3) := by decide +kernel
theorem dL_wordAt_8 : decode cL_wordAt 8 = .ok (.i2l, 1) := by decide +kernel
theorem dL_wordAt_9 : decode cL_wordAt 9 = .ok (.lastore, 1) := by decide +kernel
theorem dL_wordAt_10 : decode cL_wordAt 10 = .ok (.goto 7, 3) := by decide +kernel
theorem dL_wordAt_13 : decode cL_wordAt 13 = .ok (.astore 4, 2) := by decide +kernel
theorem dL_wordAt_15 : decode cL_wordAt 15 = .ok (.iconst 1, 1) := by decide +kernel
theorem dL_wordAt_16 : decode cL_wordAt 16 = .ok (.ireturn, 1) := by decide +kernel
theorem dL_wordAt_17 : decode cL_wordAt 17 = .ok (.iconst 0, 1) := by decide +kernel
theorem dL_wordAt_18 : decode cL_wordAt 18 = .ok (.ireturn, 1) := by decide +kernel
theorem dL_freeIn_0 : decode cL_freeIn 0 = .ok (.aload_n 2, 1) := by decide +kernel
theorem dL_freeIn_1 : decode cL_freeIn 1 = .ok (.iconst 0, 1) := by decide +kernel
theorem dL_freeIn_2 : decode cL_freeIn 2 = .ok (.aload_n 0, 1) := by decide +kernel
theorem dL_freeIn_3 : decode cL_freeIn 3 = .ok (.iload_n 1, 1) := by decide +kernel
theorem dL_freeIn_4 : decode cL_freeIn 4 = .ok (.invokevirtual 43, 3) := by decide +kernel
theorem dL_freeIn_7 : decode cL_freeIn 7 = .ok (.i2l, 1) := by decide +kernel
theorem dL_freeIn_8 : decode cL_freeIn 8 = .ok (.lastore, 1) := by decide +kernel
theorem dL_freeIn_9 : decode cL_freeIn 9 = .ok (.goto 6, 3) := by decide +kernel
theorem dL_freeIn_12 : decode cL_freeIn 12 = .ok (.astore_n 3, 1) := by decide +kernel
theorem dL_freeIn_13 : decode cL_freeIn 13 = .ok (.iconst 1, 1) := by decide +kernel
theorem dL_freeIn_14 : decode cL_freeIn 14 = .ok (.ireturn, 1) := by decide +kernel
theorem dL_freeIn_15 : decode cL_freeIn 15 = .ok (.iconst 0, 1) := by decide +kernel
theorem dL_freeIn_16 : decode cL_freeIn 16 = .ok (.ireturn, 1) := by decide +kernel
theorem dL_longestRun_0 : decode cL_longestRun 0 = .ok (.aload_n 2, 1) := by decide +kernel
theorem dL_longestRun_1 : decode cL_longestRun 1 = .ok (.iconst 0, 1) := by decide +kernel
theorem dL_longestRun_2 : decode cL_longestRun 2 = .ok (.aload_n 0, 1) := by decide +kernel
theorem dL_longestRun_3 : decode cL_longestRun 3 = .ok (.iload_n 1, 1) := by decide +kernel
theorem dL_longestRun_4 : decode cL_longestRun 4 = .ok (.invokevirtual 46, 3) := by decide +kernel
theorem dL_longestRun_7 : decode cL_longestRun 7 = .ok (.i2l, 1) := by decide +kernel
theorem dL_longestRun_8 : decode cL_longestRun 8 = .ok (.lastore, 1) := by decide +kernel
theorem dL_longestRun_9 : decode cL_longestRun 9 = .ok (.goto 6, 3) := by decide +kernel
theorem dL_longestRun_12 : decode cL_longestRun 12 = .ok (.astore_n 3, 1) := by decide +kernel
theorem dL_longestRun_13 : decode cL_longestRun 13 = .ok (.iconst 1, 1) := by decide +kernel
theorem dL_longestRun_14 : decode cL_longestRun 14 = .ok (.ireturn, 1) := by decide +kernel
theorem dL_longestRun_15 : decode cL_longestRun 15 = .ok (.iconst 0, 1) := by decide +kernel
theorem dL_longestRun_16 : decode cL_longestRun 16 = .ok (.ireturn, 1) := by decide +kernel
theorem dL_timeFor_0 : decode cL_timeFor 0 = .ok (.aload_n 2, 1) := by decide +kernel
theorem dL_timeFor_1 : decode cL_timeFor 1 = .ok (.iconst 0, 1) := by decide +kernel
theorem dL_timeFor_2 : decode cL_timeFor 2 = .ok (.aload_n 0, 1) := by decide +kernel
theorem dL_timeFor_3 : decode cL_timeFor 3 = .ok (.iload_n 1, 1) := by decide +kernel
theorem dL_timeFor_4 : decode cL_timeFor 4 = .ok (.invokevirtual 49, 3) := by decide +kernel
theorem dL_timeFor_7 : decode cL_timeFor 7 = .ok (.i2l, 1) := by decide +kernel
theorem dL_timeFor_8 : decode cL_timeFor 8 = .ok (.lastore, 1) := by decide +kernel
theorem dL_timeFor_9 : decode cL_timeFor 9 = .ok (.goto 6, 3) := by decide +kernel
theorem dL_timeFor_12 : decode cL_timeFor 12 = .ok (.astore_n 3, 1) := by decide +kernel
theorem dL_timeFor_13 : decode cL_timeFor 13 = .ok (.iconst 1, 1) := by decide +kernel
theorem dL_timeFor_14 : decode cL_timeFor 14 = .ok (.ireturn, 1) := by decide +kernel
theorem dL_timeFor_15 : decode cL_timeFor 15 = .ok (.iconst 0, 1) := by decide +kernel
theorem dL_timeFor_16 : decode cL_timeFor 16 = .ok (.ireturn, 1) := by decide +kernel
theorem dL_lettersIn_0 : decode cL_lettersIn 0 = .ok (.aload_n 2, 1) := by decide +kernel
theorem dL_lettersIn_1 : decode cL_lettersIn 1 = .ok (.iconst 0, 1) := by decide +kernel
theorem dL_lettersIn_2 : decode cL_lettersIn 2 = .ok (.aload_n 0, 1) := by decide +kernel
theorem dL_lettersIn_3 : decode cL_lettersIn 3 = .ok (.iload_n 1, 1) := by decide +kernel
theorem dL_lettersIn_4 : decode cL_lettersIn 4 = .ok (.invokevirtual 52, 3) := by decide +kernel
theorem dL_lettersIn_7 : decode cL_lettersIn 7 = .ok (.i2l, 1) := by decide +kernel
theorem dL_lettersIn_8 : decode cL_lettersIn 8 = .ok (.lastore, 1) := by decide +kernel
theorem dL_lettersIn_9 : decode cL_lettersIn 9 = .ok (.goto 6, 3) := by decide +kernel
theorem dL_lettersIn_12 : decode cL_lettersIn 12 = .ok (.astore_n 3, 1) := by decide +kernel
theorem dL_lettersIn_13 : decode cL_lettersIn 13 = .ok (.iconst 1, 1) := by decide +kernel
theorem dL_lettersIn_14 : decode cL_lettersIn 14 = .ok (.ireturn, 1) := by decide +kernel
theorem dL_lettersIn_15 : decode cL_lettersIn 15 = .ok (.iconst 0, 1) := by decide +kernel
theorem dL_lettersIn_16 : decode cL_lettersIn 16 = .ok (.ireturn, 1) := by decide +kernel
theorem dL_timeWith_0 : decode cL_timeWith 0 = .ok (.aload_n 2, 1) := by decide +kernel
theorem dL_timeWith_1 : decode cL_timeWith 1 = .ok (.iconst 0, 1) := by decide +kernel
theorem dL_timeWith_2 : decode cL_timeWith 2 = .ok (.aload_n 0, 1) := by decide +kernel
theorem dL_timeWith_3 : decode cL_timeWith 3 = .ok (.iload_n 1, 1) := by decide +kernel
theorem dL_timeWith_4 : decode cL_timeWith 4 = .ok (.invokevirtual 55, 3) := by decide +kernel
theorem dL_timeWith_7 : decode cL_timeWith 7 = .ok (.i2l, 1) := by decide +kernel
theorem dL_timeWith_8 : decode cL_timeWith 8 = .ok (.lastore, 1) := by decide +kernel
theorem dL_timeWith_9 : decode cL_timeWith 9 = .ok (.goto 6, 3) := by decide +kernel
theorem dL_timeWith_12 : decode cL_timeWith 12 = .ok (.astore_n 3, 1) := by decide +kernel
theorem dL_timeWith_13 : decode cL_timeWith 13 = .ok (.iconst 1, 1) := by decide +kernel
theorem dL_timeWith_14 : decode cL_timeWith 14 = .ok (.ireturn, 1) := by decide +kernel
theorem dL_timeWith_15 : decode cL_timeWith 15 = .ok (.iconst 0, 1) := by decide +kernel
theorem dL_timeWith_16 : decode cL_timeWith 16 = .ok (.ireturn, 1) := by decide +kernel
theorem dL_laidIf_0 : decode cL_laidIf 0 = .ok (.aload_n 3, 1) := by decide +kernel
theorem dL_laidIf_1 : decode cL_laidIf 1 = .ok (.iconst 0, 1) := by decide +kernel
theorem dL_laidIf_2 : decode cL_laidIf 2 = .ok (.aload_n 0, 1) := by decide +kernel
theorem dL_laidIf_3 : decode cL_laidIf 3 = .ok (.iload_n 1, 1) := by decide +kernel
theorem dL_laidIf_4 : decode cL_laidIf 4 = .ok (.iload_n 2, 1) := by decide +kernel
theorem dL_laidIf_5 : decode cL_laidIf 5 = .ok (.invokevirtual 58, 3) := by decide +kernel
theorem dL_laidIf_8 : decode cL_laidIf 8 = .ok (.i2l, 1) := by decide +kernel
theorem dL_laidIf_9 : decode cL_laidIf 9 = .ok (.lastore, 1) := by decide +kernel
theorem dL_laidIf_10 : decode cL_laidIf 10 = .ok (.goto 7, 3) := by decide +kernel
theorem dL_laidIf_13 : decode cL_laidIf 13 = .ok (.astore 4, 2) := by decide +kernel
theorem dL_laidIf_15 : decode cL_laidIf 15 = .ok (.iconst 1, 1) := by decide +kernel
theorem dL_laidIf_16 : decode cL_laidIf 16 = .ok (.ireturn, 1) := by decide +kernel
theorem dL_laidIf_17 : decode cL_laidIf 17 = .ok (.iconst 0, 1) := by decide +kernel
theorem dL_laidIf_18 : decode cL_laidIf 18 = .ok (.ireturn, 1) := by decide +kernel
theorem dL_laidWith_0 : decode cL_laidWith 0 = .ok (.aload_n 2, 1) := by decide +kernel
theorem dL_laidWith_1 : decode cL_laidWith 1 = .ok (.iconst 0, 1) := by decide +kernel
theorem dL_laidWith_2 : decode cL_laidWith 2 = .ok (.aload_n 0, 1) := by decide +kernel
theorem dL_laidWith_3 : decode cL_laidWith 3 = .ok (.iload_n 1, 1) := by decide +kernel
theorem dL_laidWith_4 : decode cL_laidWith 4 = .ok (.invokevirtual 61, 3) := by decide +kernel
theorem dL_laidWith_7 : decode cL_laidWith 7 = .ok (.i2l, 1) := by decide +kernel
theorem dL_laidWith_8 : decode cL_laidWith 8 = .ok (.lastore, 1) := by decide +kernel
theorem dL_laidWith_9 : decode cL_laidWith 9 = .ok (.goto 6, 3) := by decide +kernel
theorem dL_laidWith_12 : decode cL_laidWith 12 = .ok (.astore_n 3, 1) := by decide +kernel
theorem dL_laidWith_13 : decode cL_laidWith 13 = .ok (.iconst 1, 1) := by decide +kernel
theorem dL_laidWith_14 : decode cL_laidWith 14 = .ok (.ireturn, 1) := by decide +kernel
theorem dL_laidWith_15 : decode cL_laidWith 15 = .ok (.iconst 0, 1) := by decide +kernel
theorem dL_laidWith_16 : decode cL_laidWith 16 = .ok (.ireturn, 1) := by decide +kernel
theorem dL_laidBut_0 : decode cL_laidBut 0 = .ok (.aload_n 2, 1) := by decide +kernel
theorem dL_laidBut_1 : decode cL_laidBut 1 = .ok (.iconst 0, 1) := by decide +kernel
theorem dL_laidBut_2 : decode cL_laidBut 2 = .ok (.aload_n 0, 1) := by decide +kernel
theorem dL_laidBut_3 : decode cL_laidBut 3 = .ok (.iload_n 1, 1) := by decide +kernel
theorem dL_laidBut_4 : decode cL_laidBut 4 = .ok (.invokevirtual 64, 3) := by decide +kernel
theorem dL_laidBut_7 : decode cL_laidBut 7 = .ok (.i2l, 1) := by decide +kernel
theorem dL_laidBut_8 : decode cL_laidBut 8 = .ok (.lastore, 1) := by decide +kernel
theorem dL_laidBut_9 : decode cL_laidBut 9 = .ok (.goto 6, 3) := by decide +kernel
theorem dL_laidBut_12 : decode cL_laidBut 12 = .ok (.astore_n 3, 1) := by decide +kernel
theorem dL_laidBut_13 : decode cL_laidBut 13 = .ok (.iconst 1, 1) := by decide +kernel
theorem dL_laidBut_14 : decode cL_laidBut 14 = .ok (.ireturn, 1) := by decide +kernel
theorem dL_laidBut_15 : decode cL_laidBut 15 = .ok (.iconst 0, 1) := by decide +kernel
theorem dL_laidBut_16 : decode cL_laidBut 16 = .ok (.ireturn, 1) := by decide +kernel
theorem dL_bestPlace_0 : decode cL_bestPlace 0 = .ok (.aload_n 2, 1) := by decide +kernel
theorem dL_bestPlace_1 : decode cL_bestPlace 1 = .ok (.iconst 0, 1) := by decide +kernel
theorem dL_bestPlace_2 : decode cL_bestPlace 2 = .ok (.aload_n 0, 1) := by decide +kernel
theorem dL_bestPlace_3 : decode cL_bestPlace 3 = .ok (.iload_n 1, 1) := by decide +kernel
theorem dL_bestPlace_4 : decode cL_bestPlace 4 = .ok (.invokevirtual 67, 3) := by decide +kernel
theorem dL_bestPlace_7 : decode cL_bestPlace 7 = .ok (.i2l, 1) := by decide +kernel
theorem dL_bestPlace_8 : decode cL_bestPlace 8 = .ok (.lastore, 1) := by decide +kernel
theorem dL_bestPlace_9 : decode cL_bestPlace 9 = .ok (.goto 6, 3) := by decide +kernel
theorem dL_bestPlace_12 : decode cL_bestPlace 12 = .ok (.astore_n 3, 1) := by decide +kernel
theorem dL_bestPlace_13 : decode cL_bestPlace 13 = .ok (.iconst 1, 1) := by decide +kernel
theorem dL_bestPlace_14 : decode cL_bestPlace 14 = .ok (.ireturn, 1) := by decide +kernel
theorem dL_bestPlace_15 : decode cL_bestPlace 15 = .ok (.iconst 0, 1) := by decide +kernel
theorem dL_bestPlace_16 : decode cL_bestPlace 16 = .ok (.ireturn, 1) := by decide +kernel
theorem dL_addPart_0 : decode cL_addPart 0 = .ok (.aload_n 2, 1) := by decide +kernel
theorem dL_addPart_1 : decode cL_addPart 1 = .ok (.iconst 0, 1) := by decide +kernel
theorem dL_addPart_2 : decode cL_addPart 2 = .ok (.aload_n 0, 1) := by decide +kernel
theorem dL_addPart_3 : decode cL_addPart 3 = .ok (.iload_n 1, 1) := by decide +kernel
theorem dL_addPart_4 : decode cL_addPart 4 = .ok (.invokevirtual 70, 3) := by decide +kernel
theorem dL_addPart_7 : decode cL_addPart 7 = .ok (.i2l, 1) := by decide +kernel
theorem dL_addPart_8 : decode cL_addPart 8 = .ok (.lastore, 1) := by decide +kernel
theorem dL_addPart_9 : decode cL_addPart 9 = .ok (.goto 9, 3) := by decide +kernel
theorem dL_addPart_12 : decode cL_addPart 12 = .ok (.astore_n 3, 1) := by decide +kernel
theorem dL_addPart_13 : decode cL_addPart 13 = .ok (.iconst 1, 1) := by decide +kernel
theorem dL_addPart_14 : decode cL_addPart 14 = .ok (.ireturn, 1) := by decide +kernel
theorem dL_addPart_15 : decode cL_addPart 15 = .ok (.astore_n 3, 1) := by decide +kernel
theorem dL_addPart_16 : decode cL_addPart 16 = .ok (.iconst 2, 1) := by decide +kernel
theorem dL_addPart_17 : decode cL_addPart 17 = .ok (.ireturn, 1) := by decide +kernel
theorem dL_addPart_18 : decode cL_addPart 18 = .ok (.iconst 0, 1) := by decide +kernel
theorem dL_addPart_19 : decode cL_addPart 19 = .ok (.ireturn, 1) := by decide +kernel
theorem dL_dropPart_0 : decode cL_dropPart 0 = .ok (.aload_n 2, 1) := by decide +kernel
theorem dL_dropPart_1 : decode cL_dropPart 1 = .ok (.iconst 0, 1) := by decide +kernel
theorem dL_dropPart_2 : decode cL_dropPart 2 = .ok (.aload_n 0, 1) := by decide +kernel
theorem dL_dropPart_3 : decode cL_dropPart 3 = .ok (.iload_n 1, 1) := by decide +kernel
theorem dL_dropPart_4 : decode cL_dropPart 4 = .ok (.invokevirtual 73, 3) := by decide +kernel
theorem dL_dropPart_7 : decode cL_dropPart 7 = .ok (.i2l, 1) := by decide +kernel
theorem dL_dropPart_8 : decode cL_dropPart 8 = .ok (.lastore, 1) := by decide +kernel
theorem dL_dropPart_9 : decode cL_dropPart 9 = .ok (.goto 9, 3) := by decide +kernel
theorem dL_dropPart_12 : decode cL_dropPart 12 = .ok (.astore_n 3, 1) := by decide +kernel
theorem dL_dropPart_13 : decode cL_dropPart 13 = .ok (.iconst 1, 1) := by decide +kernel
theorem dL_dropPart_14 : decode cL_dropPart 14 = .ok (.ireturn, 1) := by decide +kernel
theorem dL_dropPart_15 : decode cL_dropPart 15 = .ok (.astore_n 3, 1) := by decide +kernel
theorem dL_dropPart_16 : decode cL_dropPart 16 = .ok (.iconst 2, 1) := by decide +kernel
theorem dL_dropPart_17 : decode cL_dropPart 17 = .ok (.ireturn, 1) := by decide +kernel
theorem dL_dropPart_18 : decode cL_dropPart 18 = .ok (.iconst 0, 1) := by decide +kernel
theorem dL_dropPart_19 : decode cL_dropPart 19 = .ok (.ireturn, 1) := by decide +kernel
theorem dL_movePart_0 : decode cL_movePart 0 = .ok (.aload_n 3, 1) := by decide +kernel
theorem dL_movePart_1 : decode cL_movePart 1 = .ok (.iconst 0, 1) := by decide +kernel
theorem dL_movePart_2 : decode cL_movePart 2 = .ok (.aload_n 0, 1) := by decide +kernel
theorem dL_movePart_3 : decode cL_movePart 3 = .ok (.iload_n 1, 1) := by decide +kernel
theorem dL_movePart_4 : decode cL_movePart 4 = .ok (.iload_n 2, 1) := by decide +kernel
theorem dL_movePart_5 : decode cL_movePart 5 = .ok (.invokevirtual 76, 3) := by decide +kernel
theorem dL_movePart_8 : decode cL_movePart 8 = .ok (.i2l, 1) := by decide +kernel
theorem dL_movePart_9 : decode cL_movePart 9 = .ok (.lastore, 1) := by decide +kernel
theorem dL_movePart_10 : decode cL_movePart 10 = .ok (.goto 11, 3) := by decide +kernel
theorem dL_movePart_13 : decode cL_movePart 13 = .ok (.astore 4, 2) := by decide +kernel
theorem dL_movePart_15 : decode cL_movePart 15 = .ok (.iconst 1, 1) := by decide +kernel
theorem dL_movePart_16 : decode cL_movePart 16 = .ok (.ireturn, 1) := by decide +kernel
theorem dL_movePart_17 : decode cL_movePart 17 = .ok (.astore 4, 2) := by decide +kernel
theorem dL_movePart_19 : decode cL_movePart 19 = .ok (.iconst 2, 1) := by decide +kernel
theorem dL_movePart_20 : decode cL_movePart 20 = .ok (.ireturn, 1) := by decide +kernel
theorem dL_movePart_21 : decode cL_movePart 21 = .ok (.iconst 0, 1) := by decide +kernel
theorem dL_movePart_22 : decode cL_movePart 22 = .ok (.ireturn, 1) := by decide +kernel
theorem dL_setFlaw_0 : decode cL_setFlaw 0 = .ok (.aload 4, 2) := by decide +kernel
theorem dL_setFlaw_2 : decode cL_setFlaw 2 = .ok (.iconst 0, 1) := by decide +kernel
theorem dL_setFlaw_3 : decode cL_setFlaw 3 = .ok (.aload_n 0, 1) := by decide +kernel
theorem dL_setFlaw_4 : decode cL_setFlaw 4 = .ok (.iload_n 1, 1) := by decide +kernel
theorem dL_setFlaw_5 : decode cL_setFlaw 5 = .ok (.iload_n 2, 1) := by decide +kernel
theorem dL_setFlaw_6 : decode cL_setFlaw 6 = .ok (.iload_n 3, 1) := by decide +kernel
theorem dL_setFlaw_7 : decode cL_setFlaw 7 = .ok (.invokevirtual 79, 3) := by decide +kernel
theorem dL_setFlaw_10 : decode cL_setFlaw 10 = .ok (.ifCond .eq 7, 3) := by decide +kernel
theorem dL_setFlaw_13 : decode cL_setFlaw 13 = .ok (.lconst 1, 1) := by decide +kernel
theorem dL_setFlaw_14 : decode cL_setFlaw 14 = .ok (.goto 4, 3) := by decide +kernel
theorem dL_setFlaw_17 : decode cL_setFlaw 17 = .ok (.lconst 0, 1) := by decide +kernel
theorem dL_setFlaw_18 : decode cL_setFlaw 18 = .ok (.lastore, 1) := by decide +kernel
theorem dL_setFlaw_19 : decode cL_setFlaw 19 = .ok (.goto 11, 3) := by decide +kernel
theorem dL_setFlaw_22 : decode cL_setFlaw 22 = .ok (.astore 5, 2) := by decide +kernel
theorem dL_setFlaw_24 : decode cL_setFlaw 24 = .ok (.iconst 1, 1) := by decide +kernel
theorem dL_setFlaw_25 : decode cL_setFlaw 25 = .ok (.ireturn, 1) := by decide +kernel
theorem dL_setFlaw_26 : decode cL_setFlaw 26 = .ok (.astore 5, 2) := by decide +kernel
theorem dL_setFlaw_28 : decode cL_setFlaw 28 = .ok (.iconst 2, 1) := by decide +kernel
theorem dL_setFlaw_29 : decode cL_setFlaw 29 = .ok (.ireturn, 1) := by decide +kernel
theorem dL_setFlaw_30 : decode cL_setFlaw 30 = .ok (.iconst 0, 1) := by decide +kernel
theorem dL_setFlaw_31 : decode cL_setFlaw 31 = .ok (.ireturn, 1) := by decide +kernel
theorem dL_setGap_0 : decode cL_setGap 0 = .ok (.aload_n 2, 1) := by decide +kernel
theorem dL_setGap_1 : decode cL_setGap 1 = .ok (.iconst 0, 1) := by decide +kernel
theorem dL_setGap_2 : decode cL_setGap 2 = .ok (.aload_n 0, 1) := by decide +kernel
theorem dL_setGap_3 : decode cL_setGap 3 = .ok (.iload_n 1, 1) := by decide +kernel
theorem dL_setGap_4 : decode cL_setGap 4 = .ok (.invokevirtual 83, 3) := by decide +kernel
theorem dL_setGap_7 : decode cL_setGap 7 = .ok (.i2l, 1) := by decide +kernel
theorem dL_setGap_8 : decode cL_setGap 8 = .ok (.lastore, 1) := by decide +kernel
theorem dL_setGap_9 : decode cL_setGap 9 = .ok (.goto 9, 3) := by decide +kernel
theorem dL_setGap_12 : decode cL_setGap 12 = .ok (.astore_n 3, 1) := by decide +kernel
theorem dL_setGap_13 : decode cL_setGap 13 = .ok (.iconst 1, 1) := by decide +kernel
theorem dL_setGap_14 : decode cL_setGap 14 = .ok (.ireturn, 1) := by decide +kernel
theorem dL_setGap_15 : decode cL_setGap 15 = .ok (.astore_n 3, 1) := by decide +kernel
theorem dL_setGap_16 : decode cL_setGap 16 = .ok (.iconst 2, 1) := by decide +kernel
theorem dL_setGap_17 : decode cL_setGap 17 = .ok (.ireturn, 1) := by decide +kernel
theorem dL_setGap_18 : decode cL_setGap 18 = .ok (.iconst 0, 1) := by decide +kernel
theorem dL_setGap_19 : decode cL_setGap 19 = .ok (.ireturn, 1) := by decide +kernel
theorem dL_turnSlab_0 : decode cL_turnSlab 0 = .ok (.aload_n 1, 1) := by decide +kernel
theorem dL_turnSlab_1 : decode cL_turnSlab 1 = .ok (.iconst 0, 1) := by decide +kernel
theorem dL_turnSlab_2 : decode cL_turnSlab 2 = .ok (.aload_n 0, 1) := by decide +kernel
theorem dL_turnSlab_3 : decode cL_turnSlab 3 = .ok (.invokevirtual 86, 3) := by decide +kernel
theorem dL_turnSlab_6 : decode cL_turnSlab 6 = .ok (.i2l, 1) := by decide +kernel
theorem dL_turnSlab_7 : decode cL_turnSlab 7 = .ok (.lastore, 1) := by decide +kernel
theorem dL_turnSlab_8 : decode cL_turnSlab 8 = .ok (.goto 6, 3) := by decide +kernel
theorem dL_turnSlab_11 : decode cL_turnSlab 11 = .ok (.astore_n 2, 1) := by decide +kernel
theorem dL_turnSlab_12 : decode cL_turnSlab 12 = .ok (.iconst 1, 1) := by decide +kernel
theorem dL_turnSlab_13 : decode cL_turnSlab 13 = .ok (.ireturn, 1) := by decide +kernel
theorem dL_turnSlab_14 : decode cL_turnSlab 14 = .ok (.iconst 0, 1) := by decide +kernel
theorem dL_turnSlab_15 : decode cL_turnSlab 15 = .ok (.ireturn, 1) := by decide +kernel
theorem dL_cutRows_0 : decode cL_cutRows 0 = .ok (.aload_n 3, 1) := by decide +kernel
theorem dL_cutRows_1 : decode cL_cutRows 1 = .ok (.iconst 0, 1) := by decide +kernel
theorem dL_cutRows_2 : decode cL_cutRows 2 = .ok (.aload_n 0, 1) := by decide +kernel
theorem dL_cutRows_3 : decode cL_cutRows 3 = .ok (.iload_n 1, 1) := by decide +kernel
theorem dL_cutRows_4 : decode cL_cutRows 4 = .ok (.iload_n 2, 1) := by decide +kernel
theorem dL_cutRows_5 : decode cL_cutRows 5 = .ok (.invokevirtual 90, 3) := by decide +kernel
theorem dL_cutRows_8 : decode cL_cutRows 8 = .ok (.i2l, 1) := by decide +kernel
theorem dL_cutRows_9 : decode cL_cutRows 9 = .ok (.lastore, 1) := by decide +kernel
theorem dL_cutRows_10 : decode cL_cutRows 10 = .ok (.goto 11, 3) := by decide +kernel
theorem dL_cutRows_13 : decode cL_cutRows 13 = .ok (.astore 4, 2) := by decide +kernel
theorem dL_cutRows_15 : decode cL_cutRows 15 = .ok (.iconst 1, 1) := by decide +kernel
theorem dL_cutRows_16 : decode cL_cutRows 16 = .ok (.ireturn, 1) := by decide +kernel
theorem dL_cutRows_17 : decode cL_cutRows 17 = .ok (.astore 4, 2) := by decide +kernel
theorem dL_cutRows_19 : decode cL_cutRows 19 = .ok (.iconst 2, 1) := by decide +kernel
theorem dL_cutRows_20 : decode cL_cutRows 20 = .ok (.ireturn, 1) := by decide +kernel
theorem dL_cutRows_21 : decode cL_cutRows 21 = .ok (.iconst 0, 1) := by decide +kernel
theorem dL_cutRows_22 : decode cL_cutRows 22 = .ok (.ireturn, 1) := by decide +kernel
theorem dL_carve_0 : decode cL_carve 0 = .ok (.aload_n 2, 1) := by decide +kernel
theorem dL_carve_1 : decode cL_carve 1 = .ok (.iconst 0, 1) := by decide +kernel
theorem dL_carve_2 : decode cL_carve 2 = .ok (.aload_n 0, 1) := by decide +kernel
theorem dL_carve_3 : decode cL_carve 3 = .ok (.iload_n 1, 1) := by decide +kernel
theorem dL_carve_4 : decode cL_carve 4 = .ok (.invokevirtual 94, 3) := by decide +kernel
theorem dL_carve_7 : decode cL_carve 7 = .ok (.i2l, 1) := by decide +kernel
theorem dL_carve_8 : decode cL_carve 8 = .ok (.lastore, 1) := by decide +kernel
theorem dL_carve_9 : decode cL_carve 9 = .ok (.goto 6, 3) := by decide +kernel
theorem dL_carve_12 : decode cL_carve 12 = .ok (.astore_n 3, 1) := by decide +kernel
theorem dL_carve_13 : decode cL_carve 13 = .ok (.iconst 1, 1) := by decide +kernel
theorem dL_carve_14 : decode cL_carve 14 = .ok (.ireturn, 1) := by decide +kernel
theorem dL_carve_15 : decode cL_carve 15 = .ok (.iconst 0, 1) := by decide +kernel
theorem dL_carve_16 : decode cL_carve 16 = .ok (.ireturn, 1) := by decide +kernel
theorem dL_setChisel_0 : decode cL_setChisel 0 = .ok (.aload_n 3, 1) := by decide +kernel
theorem dL_setChisel_1 : decode cL_setChisel 1 = .ok (.iconst 0, 1) := by decide +kernel
theorem dL_setChisel_2 : decode cL_setChisel 2 = .ok (.aload_n 0, 1) := by decide +kernel
theorem dL_setChisel_3 : decode cL_setChisel 3 = .ok (.iload_n 1, 1) := by decide +kernel
theorem dL_setChisel_4 : decode cL_setChisel 4 = .ok (.iload_n 2, 1) := by decide +kernel
theorem dL_setChisel_5 : decode cL_setChisel 5 = .ok (.invokevirtual 97, 3) := by decide +kernel
theorem dL_setChisel_8 : decode cL_setChisel 8 = .ok (.i2l, 1) := by decide +kernel
theorem dL_setChisel_9 : decode cL_setChisel 9 = .ok (.lastore, 1) := by decide +kernel
theorem dL_setChisel_10 : decode cL_setChisel 10 = .ok (.goto 7, 3) := by decide +kernel
theorem dL_setChisel_13 : decode cL_setChisel 13 = .ok (.astore 4, 2) := by decide +kernel
theorem dL_setChisel_15 : decode cL_setChisel 15 = .ok (.iconst 1, 1) := by decide +kernel
theorem dL_setChisel_16 : decode cL_setChisel 16 = .ok (.ireturn, 1) := by decide +kernel
theorem dL_setChisel_17 : decode cL_setChisel 17 = .ok (.iconst 0, 1) := by decide +kernel
theorem dL_setChisel_18 : decode cL_setChisel 18 = .ok (.ireturn, 1) := by decide +kernel
theorem dL_keep_0 : decode cL_keep 0 = .ok (.aload_n 2, 1) := by decide +kernel
theorem dL_keep_1 : decode cL_keep 1 = .ok (.iconst 0, 1) := by decide +kernel
theorem dL_keep_2 : decode cL_keep 2 = .ok (.aload_n 0, 1) := by decide +kernel
theorem dL_keep_3 : decode cL_keep 3 = .ok (.iload_n 1, 1) := by decide +kernel
theorem dL_keep_4 : decode cL_keep 4 = .ok (.invokevirtual 100, 3) := by decide +kernel
theorem dL_keep_7 : decode cL_keep 7 = .ok (.i2l, 1) := by decide +kernel
theorem dL_keep_8 : decode cL_keep 8 = .ok (.lastore, 1) := by decide +kernel
theorem dL_keep_9 : decode cL_keep 9 = .ok (.goto 6, 3) := by decide +kernel
theorem dL_keep_12 : decode cL_keep 12 = .ok (.astore_n 3, 1) := by decide +kernel
theorem dL_keep_13 : decode cL_keep 13 = .ok (.iconst 1, 1) := by decide +kernel
theorem dL_keep_14 : decode cL_keep 14 = .ok (.ireturn, 1) := by decide +kernel
theorem dL_keep_15 : decode cL_keep 15 = .ok (.iconst 0, 1) := by decide +kernel
theorem dL_keep_16 : decode cL_keep 16 = .ok (.ireturn, 1) := by decide +kernel
theorem dL_restore_0 : decode cL_restore 0 = .ok (.aload_n 2, 1) := by decide +kernel
theorem dL_restore_1 : decode cL_restore 1 = .ok (.iconst 0, 1) := by decide +kernel
theorem dL_restore_2 : decode cL_restore 2 = .ok (.aload_n 0, 1) := by decide +kernel
theorem dL_restore_3 : decode cL_restore 3 = .ok (.iload_n 1, 1) := by decide +kernel
theorem dL_restore_4 : decode cL_restore 4 = .ok (.invokevirtual 103, 3) := by decide +kernel
theorem dL_restore_7 : decode cL_restore 7 = .ok (.i2l, 1) := by decide +kernel
theorem dL_restore_8 : decode cL_restore 8 = .ok (.lastore, 1) := by decide +kernel
theorem dL_restore_9 : decode cL_restore 9 = .ok (.goto 9, 3) := by decide +kernel
theorem dL_restore_12 : decode cL_restore 12 = .ok (.astore_n 3, 1) := by decide +kernel
theorem dL_restore_13 : decode cL_restore 13 = .ok (.iconst 1, 1) := by decide +kernel
theorem dL_restore_14 : decode cL_restore 14 = .ok (.ireturn, 1) := by decide +kernel
theorem dL_restore_15 : decode cL_restore 15 = .ok (.astore_n 3, 1) := by decide +kernel
theorem dL_restore_16 : decode cL_restore 16 = .ok (.iconst 2, 1) := by decide +kernel
theorem dL_restore_17 : decode cL_restore 17 = .ok (.ireturn, 1) := by decide +kernel
theorem dL_restore_18 : decode cL_restore 18 = .ok (.iconst 0, 1) := by decide +kernel
theorem dL_restore_19 : decode cL_restore 19 = .ok (.ireturn, 1) := by decide +kernel
theorem dL_undo_0 : decode cL_undo 0 = .ok (.aload_n 1, 1) := by decide +kernel
theorem dL_undo_1 : decode cL_undo 1 = .ok (.iconst 0, 1) := by decide +kernel
theorem dL_undo_2 : decode cL_undo 2 = .ok (.aload_n 0, 1) := by decide +kernel
theorem dL_undo_3 : decode cL_undo 3 = .ok (.invokevirtual 106, 3) := by decide +kernel
theorem dL_undo_6 : decode cL_undo 6 = .ok (.i2l, 1) := by decide +kernel
theorem dL_undo_7 : decode cL_undo 7 = .ok (.lastore, 1) := by decide +kernel
theorem dL_undo_8 : decode cL_undo 8 = .ok (.goto 6, 3) := by decide +kernel
theorem dL_undo_11 : decode cL_undo 11 = .ok (.astore_n 2, 1) := by decide +kernel
theorem dL_undo_12 : decode cL_undo 12 = .ok (.iconst 1, 1) := by decide +kernel
theorem dL_undo_13 : decode cL_undo 13 = .ok (.ireturn, 1) := by decide +kernel
theorem dL_undo_14 : decode cL_undo 14 = .ok (.iconst 0, 1) := by decide +kernel
theorem dL_undo_15 : decode cL_undo 15 = .ok (.ireturn, 1) := by decide +kernel
theorem dL_writeRow_0 : decode cL_writeRow 0 = .ok (.aload_n 2, 1) := by decide +kernel
theorem dL_writeRow_1 : decode cL_writeRow 1 = .ok (.iconst 0, 1) := by decide +kernel
theorem dL_writeRow_2 : decode cL_writeRow 2 = .ok (.aload_n 0, 1) := by decide +kernel
theorem dL_writeRow_3 : decode cL_writeRow 3 = .ok (.iload_n 1, 1) := by decide +kernel
theorem dL_writeRow_4 : decode cL_writeRow 4 = .ok (.invokevirtual 109, 3) := by decide +kernel
theorem dL_writeRow_7 : decode cL_writeRow 7 = .ok (.i2l, 1) := by decide +kernel
theorem dL_writeRow_8 : decode cL_writeRow 8 = .ok (.lastore, 1) := by decide +kernel
theorem dL_writeRow_9 : decode cL_writeRow 9 = .ok (.goto 6, 3) := by decide +kernel
theorem dL_writeRow_12 : decode cL_writeRow 12 = .ok (.astore_n 3, 1) := by decide +kernel
theorem dL_writeRow_13 : decode cL_writeRow 13 = .ok (.iconst 1, 1) := by decide +kernel
theorem dL_writeRow_14 : decode cL_writeRow 14 = .ok (.ireturn, 1) := by decide +kernel
theorem dL_writeRow_15 : decode cL_writeRow 15 = .ok (.iconst 0, 1) := by decide +kernel
theorem dL_writeRow_16 : decode cL_writeRow 16 = .ok (.ireturn, 1) := by decide +kernel
theorem dL_writePart_0 : decode cL_writePart 0 = .ok (.aload_n 2, 1) := by decide +kernel
theorem dL_writePart_1 : decode cL_writePart 1 = .ok (.iconst 0, 1) := by decide +kernel
theorem dL_writePart_2 : decode cL_writePart 2 = .ok (.aload_n 0, 1) := by decide +kernel
theorem dL_writePart_3 : decode cL_writePart 3 = .ok (.iload_n 1, 1) := by decide +kernel
theorem dL_writePart_4 : decode cL_writePart 4 = .ok (.invokevirtual 112, 3) := by decide +kernel
theorem dL_writePart_7 : decode cL_writePart 7 = .ok (.i2l, 1) := by decide +kernel
theorem dL_writePart_8 : decode cL_writePart 8 = .ok (.lastore, 1) := by decide +kernel
theorem dL_writePart_9 : decode cL_writePart 9 = .ok (.goto 6, 3) := by decide +kernel
theorem dL_writePart_12 : decode cL_writePart 12 = .ok (.astore_n 3, 1) := by decide +kernel
theorem dL_writePart_13 : decode cL_writePart 13 = .ok (.iconst 1, 1) := by decide +kernel
theorem dL_writePart_14 : decode cL_writePart 14 = .ok (.ireturn, 1) := by decide +kernel
theorem dL_writePart_15 : decode cL_writePart 15 = .ok (.iconst 0, 1) := by decide +kernel
theorem dL_writePart_16 : decode cL_writePart 16 = .ok (.ireturn, 1) := by decide +kernel
theorem dL_outputByte_0 : decode cL_outputByte 0 = .ok (.aload_n 2, 1) := by decide +kernel
theorem dL_outputByte_1 : decode cL_outputByte 1 = .ok (.iconst 0, 1) := by decide +kernel
theorem dL_outputByte_2 : decode cL_outputByte 2 = .ok (.aload_n 0, 1) := by decide +kernel
theorem dL_outputByte_3 : decode cL_outputByte 3 = .ok (.iload_n 1, 1) := by decide +kernel
theorem dL_outputByte_4 : decode cL_outputByte 4 = .ok (.invokevirtual 115, 3) := by decide +kernel
theorem dL_outputByte_7 : decode cL_outputByte 7 = .ok (.i2l, 1) := by decide +kernel
theorem dL_outputByte_8 : decode cL_outputByte 8 = .ok (.lastore, 1) := by decide +kernel
theorem dL_outputByte_9 : decode cL_outputByte 9 = .ok (.goto 6, 3) := by decide +kernel
theorem dL_outputByte_12 : decode cL_outputByte 12 = .ok (.astore_n 3, 1) := by decide +kernel
theorem dL_outputByte_13 : decode cL_outputByte 13 = .ok (.iconst 1, 1) := by decide +kernel
theorem dL_outputByte_14 : decode cL_outputByte 14 = .ok (.ireturn, 1) := by decide +kernel
theorem dL_outputByte_15 : decode cL_outputByte 15 = .ok (.iconst 0, 1) := by decide +kernel
theorem dL_outputByte_16 : decode cL_outputByte 16 = .ok (.ireturn, 1) := by decide +kernel
theorem dL_law_0 : decode cL_law 0 = .ok (.new 8, 3) := by decide +kernel
theorem dL_law_3 : decode cL_law 3 = .ok (.dup, 1) := by decide +kernel
theorem dL_law_4 : decode cL_law 4 = .ok (.invokespecial 120, 3) := by decide +kernel
theorem dL_law_7 : decode cL_law 7 = .ok (.astore_n 1, 1) := by decide +kernel
theorem dL_law_8 : decode cL_law 8 = .ok (.new 121, 3) := by decide +kernel
theorem dL_law_11 : decode cL_law 11 = .ok (.dup, 1) := by decide +kernel
theorem dL_law_12 : decode cL_law 12 = .ok (.invokespecial 123, 3) := by decide +kernel
theorem dL_law_15 : decode cL_law 15 = .ok (.astore_n 2, 1) := by decide +kernel
theorem dL_law_16 : decode cL_law 16 = .ok (.iconst 1, 1) := by decide +kernel
theorem dL_law_17 : decode cL_law 17 = .ok (.newarray .long, 2) := by decide +kernel
theorem dL_law_19 : decode cL_law 19 = .ok (.astore_n 3, 1) := by decide +kernel
theorem dL_law_20 : decode cL_law 20 = .ok (.iconst 0, 1) := by decide +kernel
theorem dL_law_21 : decode cL_law 21 = .ok (.istore 4, 2) := by decide +kernel
theorem dL_law_23 : decode cL_law 23 = .ok (.iload 4, 2) := by decide +kernel
theorem dL_law_25 : decode cL_law 25 = .ok (.aload_n 0, 1) := by decide +kernel
theorem dL_law_26 : decode cL_law 26 = .ok (.arraylength, 1) := by decide +kernel
theorem dL_law_27 : decode cL_law 27 = .ok (.bipush 6, 2) := by decide +kernel
theorem dL_law_29 : decode cL_law 29 = .ok (.isub, 1) := by decide +kernel
theorem dL_law_30 : decode cL_law 30 = .ok (.if_icmp .gt 2536, 3) := by decide +kernel
theorem dL_law_33 : decode cL_law 33 = .ok (.aload_n 0, 1) := by decide +kernel
theorem dL_law_34 : decode cL_law 34 = .ok (.iload 4, 2) := by decide +kernel
theorem dL_law_36 : decode cL_law 36 = .ok (.iaload, 1) := by decide +kernel
theorem dL_law_37 : decode cL_law 37 = .ok (.bipush 63, 2) := by decide +kernel
theorem dL_law_39 : decode cL_law 39 = .ok (.iand, 1) := by decide +kernel
theorem dL_law_40 : decode cL_law 40 = .ok (.tableswitch 2520 0 50 #[220, 324, 360, 373, 386, 399, 455, 523, 591, 659, 727, 795, 851, 907, 920, 933, 946, 1002, 1058, 1071, 1127, 1140, 1208, 1221, 1234, 1290, 1303, 1316, 1372, 1428, 1441, 1454, 1497, 1538, 1579, 1635, 1691, 1759, 1862, 1918, 1962, 2046, 2102, 2115, 2183, 2239, 2295, 2339, 2352, 2408, 2464], 220) := by decide +kernel
theorem dL_law_260 : decode cL_law 260 = .ok (.aload_n 1, 1) := by decide +kernel
theorem dL_law_261 : decode cL_law 261 = .ok (.aload_n 0, 1) := by decide +kernel
theorem dL_law_262 : decode cL_law 262 = .ok (.iload 4, 2) := by decide +kernel
theorem dL_law_264 : decode cL_law 264 = .ok (.iconst 1, 1) := by decide +kernel
theorem dL_law_265 : decode cL_law 265 = .ok (.iadd, 1) := by decide +kernel
theorem dL_law_266 : decode cL_law 266 = .ok (.iaload, 1) := by decide +kernel
theorem dL_law_267 : decode cL_law 267 = .ok (.aload_n 0, 1) := by decide +kernel
theorem dL_law_268 : decode cL_law 268 = .ok (.iload 4, 2) := by decide +kernel
theorem dL_law_270 : decode cL_law 270 = .ok (.iconst 2, 1) := by decide +kernel
theorem dL_law_271 : decode cL_law 271 = .ok (.iadd, 1) := by decide +kernel
theorem dL_law_272 : decode cL_law 272 = .ok (.iaload, 1) := by decide +kernel
theorem dL_law_273 : decode cL_law 273 = .ok (.aload_n 0, 1) := by decide +kernel
theorem dL_law_274 : decode cL_law 274 = .ok (.iload 4, 2) := by decide +kernel
theorem dL_law_276 : decode cL_law 276 = .ok (.iconst 3, 1) := by decide +kernel
theorem dL_law_277 : decode cL_law 277 = .ok (.iadd, 1) := by decide +kernel
theorem dL_law_278 : decode cL_law 278 = .ok (.iaload, 1) := by decide +kernel
theorem dL_law_279 : decode cL_law 279 = .ok (.aload_n 0, 1) := by decide +kernel
theorem dL_law_280 : decode cL_law 280 = .ok (.iload 4, 2) := by decide +kernel
theorem dL_law_282 : decode cL_law 282 = .ok (.iconst 4, 1) := by decide +kernel
theorem dL_law_283 : decode cL_law 283 = .ok (.iadd, 1) := by decide +kernel
theorem dL_law_284 : decode cL_law 284 = .ok (.iaload, 1) := by decide +kernel
theorem dL_law_285 : decode cL_law 285 = .ok (.aload_n 0, 1) := by decide +kernel
theorem dL_law_286 : decode cL_law 286 = .ok (.iload 4, 2) := by decide +kernel
theorem dL_law_288 : decode cL_law 288 = .ok (.iconst 5, 1) := by decide +kernel
theorem dL_law_289 : decode cL_law 289 = .ok (.iadd, 1) := by decide +kernel
theorem dL_law_290 : decode cL_law 290 = .ok (.iaload, 1) := by decide +kernel
theorem dL_law_291 : decode cL_law 291 = .ok (.aload_n 3, 1) := by decide +kernel
theorem dL_law_292 : decode cL_law 292 = .ok (.invokestatic 124, 3) := by decide +kernel
theorem dL_law_295 : decode cL_law 295 = .ok (.istore 5, 2) := by decide +kernel
theorem dL_law_297 : decode cL_law 297 = .ok (.aload_n 2, 1) := by decide +kernel
theorem dL_law_298 : decode cL_law 298 = .ok (.aload_n 0, 1) := by decide +kernel
theorem dL_law_299 : decode cL_law 299 = .ok (.iload 4, 2) := by decide +kernel
theorem dL_law_301 : decode cL_law 301 = .ok (.iconst 1, 1) := by decide +kernel
theorem dL_law_302 : decode cL_law 302 = .ok (.iadd, 1) := by decide +kernel
theorem dL_law_303 : decode cL_law 303 = .ok (.iaload, 1) := by decide +kernel
theorem dL_law_304 : decode cL_law 304 = .ok (.aload_n 0, 1) := by decide +kernel
theorem dL_law_305 : decode cL_law 305 = .ok (.iload 4, 2) := by decide +kernel
theorem dL_law_307 : decode cL_law 307 = .ok (.iconst 2, 1) := by decide +kernel
theorem dL_law_308 : decode cL_law 308 = .ok (.iadd, 1) := by decide +kernel
theorem dL_law_309 : decode cL_law 309 = .ok (.iaload, 1) := by decide +kernel
theorem dL_law_310 : decode cL_law 310 = .ok (.aload_n 0, 1) := by decide +kernel
theorem dL_law_311 : decode cL_law 311 = .ok (.iload 4, 2) := by decide +kernel
theorem dL_law_313 : decode cL_law 313 = .ok (.iconst 3, 1) := by decide +kernel
theorem dL_law_314 : decode cL_law 314 = .ok (.iadd, 1) := by decide +kernel
theorem dL_law_315 : decode cL_law 315 = .ok (.iaload, 1) := by decide +kernel
theorem dL_law_316 : decode cL_law 316 = .ok (.aload_n 0, 1) := by decide +kernel
theorem dL_law_317 : decode cL_law 317 = .ok (.iload 4, 2) := by decide +kernel
theorem dL_law_319 : decode cL_law 319 = .ok (.iconst 4, 1) := by decide +kernel
theorem dL_law_320 : decode cL_law 320 = .ok (.iadd, 1) := by decide +kernel
theorem dL_law_321 : decode cL_law 321 = .ok (.iaload, 1) := by decide +kernel
theorem dL_law_322 : decode cL_law 322 = .ok (.aload_n 0, 1) := by decide +kernel
theorem dL_law_323 : decode cL_law 323 = .ok (.iload 4, 2) := by decide +kernel
theorem dL_law_325 : decode cL_law 325 = .ok (.iconst 5, 1) := by decide +kernel
theorem dL_law_326 : decode cL_law 326 = .ok (.iadd, 1) := by decide +kernel
theorem dL_law_327 : decode cL_law 327 = .ok (.iaload, 1) := by decide +kernel
theorem dL_law_328 : decode cL_law 328 = .ok (.invokevirtual 129, 3) := by decide +kernel
theorem dL_law_331 : decode cL_law 331 = .ok (.istore 6, 2) := by decide +kernel
theorem dL_law_333 : decode cL_law 333 = .ok (.aload_n 2, 1) := by decide +kernel
theorem dL_law_334 : decode cL_law 334 = .ok (.invokevirtual 130, 3) := by decide +kernel
theorem dL_law_337 : decode cL_law 337 = .ok (.iload 5, 2) := by decide +kernel
theorem dL_law_339 : decode cL_law 339 = .ok (.if_icmp .eq 5, 3) := by decide +kernel
theorem dL_law_342 : decode cL_law 342 = .ok (.iconst 0, 1) := by decide +kernel
theorem dL_law_343 : decode cL_law 343 = .ok (.ireturn, 1) := by decide +kernel
theorem dL_law_344 : decode cL_law 344 = .ok (.iload 5, 2) := by decide +kernel
theorem dL_law_346 : decode cL_law 346 = .ok (.ifCond .ne 15, 3) := by decide +kernel
theorem dL_law_349 : decode cL_law 349 = .ok (.aload_n 3, 1) := by decide +kernel
theorem dL_law_350 : decode cL_law 350 = .ok (.iconst 0, 1) := by decide +kernel
theorem dL_law_351 : decode cL_law 351 = .ok (.laload, 1) := by decide +kernel
theorem dL_law_352 : decode cL_law 352 = .ok (.iload 6, 2) := by decide +kernel
theorem dL_law_354 : decode cL_law 354 = .ok (.i2l, 1) := by decide +kernel
theorem dL_law_355 : decode cL_law 355 = .ok (.lcmp, 1) := by decide +kernel
theorem dL_law_356 : decode cL_law 356 = .ok (.ifCond .eq 5, 3) := by decide +kernel
theorem dL_law_359 : decode cL_law 359 = .ok (.iconst 0, 1) := by decide +kernel
theorem dL_law_360 : decode cL_law 360 = .ok (.ireturn, 1) := by decide +kernel
theorem dL_law_361 : decode cL_law 361 = .ok (.goto 2199, 3) := by decide +kernel
theorem dL_law_364 : decode cL_law 364 = .ok (.aload_n 1, 1) := by decide +kernel
theorem dL_law_365 : decode cL_law 365 = .ok (.aload_n 0, 1) := by decide +kernel
theorem dL_law_366 : decode cL_law 366 = .ok (.iload 4, 2) := by decide +kernel
theorem dL_law_368 : decode cL_law 368 = .ok (.iconst 1, 1) := by decide +kernel
theorem dL_law_369 : decode cL_law 369 = .ok (.iadd, 1) := by decide +kernel
theorem dL_law_370 : decode cL_law 370 = .ok (.iaload, 1) := by decide +kernel
theorem dL_law_371 : decode cL_law 371 = .ok (.invokestatic 133, 3) := by decide +kernel
theorem dL_law_374 : decode cL_law 374 = .ok (.istore 5, 2) := by decide +kernel
theorem dL_law_376 : decode cL_law 376 = .ok (.aload_n 2, 1) := by decide +kernel
theorem dL_law_377 : decode cL_law 377 = .ok (.aload_n 0, 1) := by decide +kernel
theorem dL_law_378 : decode cL_law 378 = .ok (.iload 4, 2) := by decide +kernel
theorem dL_law_380 : decode cL_law 380 = .ok (.iconst 1, 1) := by decide +kernel
theorem dL_law_381 : decode cL_law 381 = .ok (.iadd, 1) := by decide +kernel
theorem dL_law_382 : decode cL_law 382 = .ok (.iaload, 1) := by decide +kernel
theorem dL_law_383 : decode cL_law 383 = .ok (.invokevirtual 136, 3) := by decide +kernel
theorem dL_law_386 : decode cL_law 386 = .ok (.aload_n 2, 1) := by decide +kernel
theorem dL_law_387 : decode cL_law 387 = .ok (.invokevirtual 130, 3) := by decide +kernel
theorem dL_law_390 : decode cL_law 390 = .ok (.iload 5, 2) := by decide +kernel
theorem dL_law_392 : decode cL_law 392 = .ok (.if_icmp .eq 5, 3) := by decide +kernel
theorem dL_law_395 : decode cL_law 395 = .ok (.iconst 0, 1) := by decide +kernel
theorem dL_law_396 : decode cL_law 396 = .ok (.ireturn, 1) := by decide +kernel
theorem dL_law_397 : decode cL_law 397 = .ok (.goto 2163, 3) := by decide +kernel
theorem dL_law_400 : decode cL_law 400 = .ok (.aload_n 1, 1) := by decide +kernel
theorem dL_law_401 : decode cL_law 401 = .ok (.invokevirtual 137, 3) := by decide +kernel
theorem dL_law_404 : decode cL_law 404 = .ok (.aload_n 2, 1) := by decide +kernel
theorem dL_law_405 : decode cL_law 405 = .ok (.invokevirtual 140, 3) := by decide +kernel
theorem dL_law_408 : decode cL_law 408 = .ok (.if_icmp .eq 2152, 3) := by decide +kernel
theorem dL_law_411 : decode cL_law 411 = .ok (.iconst 0, 1) := by decide +kernel
theorem dL_law_412 : decode cL_law 412 = .ok (.ireturn, 1) := by decide +kernel
theorem dL_law_413 : decode cL_law 413 = .ok (.aload_n 1, 1) := by decide +kernel
theorem dL_law_414 : decode cL_law 414 = .ok (.invokevirtual 141, 3) := by decide +kernel
theorem dL_law_417 : decode cL_law 417 = .ok (.aload_n 2, 1) := by decide +kernel
theorem dL_law_418 : decode cL_law 418 = .ok (.invokevirtual 144, 3) := by decide +kernel
theorem dL_law_421 : decode cL_law 421 = .ok (.if_icmp .eq 2139, 3) := by decide +kernel
theorem dL_law_424 : decode cL_law 424 = .ok (.iconst 0, 1) := by decide +kernel
theorem dL_law_425 : decode cL_law 425 = .ok (.ireturn, 1) := by decide +kernel
theorem dL_law_426 : decode cL_law 426 = .ok (.aload_n 1, 1) := by decide +kernel
theorem dL_law_427 : decode cL_law 427 = .ok (.invokevirtual 145, 3) := by decide +kernel
theorem dL_law_430 : decode cL_law 430 = .ok (.aload_n 2, 1) := by decide +kernel
theorem dL_law_431 : decode cL_law 431 = .ok (.invokevirtual 148, 3) := by decide +kernel
theorem dL_law_434 : decode cL_law 434 = .ok (.if_icmp .eq 2126, 3) := by decide +kernel
theorem dL_law_437 : decode cL_law 437 = .ok (.iconst 0, 1) := by decide +kernel
theorem dL_law_438 : decode cL_law 438 = .ok (.ireturn, 1) := by decide +kernel
theorem dL_law_439 : decode cL_law 439 = .ok (.aload_n 1, 1) := by decide +kernel
theorem dL_law_440 : decode cL_law 440 = .ok (.aload_n 0, 1) := by decide +kernel
theorem dL_law_441 : decode cL_law 441 = .ok (.iload 4, 2) := by decide +kernel
theorem dL_law_443 : decode cL_law 443 = .ok (.iconst 1, 1) := by decide +kernel
theorem dL_law_444 : decode cL_law 444 = .ok (.iadd, 1) := by decide +kernel
theorem dL_law_445 : decode cL_law 445 = .ok (.iaload, 1) := by decide +kernel
theorem dL_law_446 : decode cL_law 446 = .ok (.aload_n 3, 1) := by decide +kernel
theorem dL_law_447 : decode cL_law 447 = .ok (.invokestatic 149, 3) := by decide +kernel
theorem dL_law_450 : decode cL_law 450 = .ok (.istore 5, 2) := by decide +kernel
theorem dL_law_452 : decode cL_law 452 = .ok (.aload_n 2, 1) := by decide +kernel
theorem dL_law_453 : decode cL_law 453 = .ok (.aload_n 0, 1) := by decide +kernel
theorem dL_law_454 : decode cL_law 454 = .ok (.iload 4, 2) := by decide +kernel
theorem dL_law_456 : decode cL_law 456 = .ok (.iconst 1, 1) := by decide +kernel
theorem dL_law_457 : decode cL_law 457 = .ok (.iadd, 1) := by decide +kernel
theorem dL_law_458 : decode cL_law 458 = .ok (.iaload, 1) := by decide +kernel
theorem dL_law_459 : decode cL_law 459 = .ok (.invokevirtual 152, 3) := by decide +kernel
theorem dL_law_462 : decode cL_law 462 = .ok (.istore 6, 2) := by decide +kernel
theorem dL_law_464 : decode cL_law 464 = .ok (.aload_n 2, 1) := by decide +kernel
theorem dL_law_465 : decode cL_law 465 = .ok (.invokevirtual 130, 3) := by decide +kernel
theorem dL_law_468 : decode cL_law 468 = .ok (.iload 5, 2) := by decide +kernel
theorem dL_law_470 : decode cL_law 470 = .ok (.if_icmp .eq 5, 3) := by decide +kernel
theorem dL_law_473 : decode cL_law 473 = .ok (.iconst 0, 1) := by decide +kernel
theorem dL_law_474 : decode cL_law 474 = .ok (.ireturn, 1) := by decide +kernel
theorem dL_law_475 : decode cL_law 475 = .ok (.iload 5, 2) := by decide +kernel
theorem dL_law_477 : decode cL_law 477 = .ok (.ifCond .ne 15, 3) := by decide +kernel
theorem dL_law_480 : decode cL_law 480 = .ok (.aload_n 3, 1) := by decide +kernel
theorem dL_law_481 : decode cL_law 481 = .ok (.iconst 0, 1) := by decide +kernel
theorem dL_law_482 : decode cL_law 482 = .ok (.laload, 1) := by decide +kernel
theorem dL_law_483 : decode cL_law 483 = .ok (.iload 6, 2) := by decide +kernel
theorem dL_law_485 : decode cL_law 485 = .ok (.i2l, 1) := by decide +kernel
theorem dL_law_486 : decode cL_law 486 = .ok (.lcmp, 1) := by decide +kernel
theorem dL_law_487 : decode cL_law 487 = .ok (.ifCond .eq 5, 3) := by decide +kernel
theorem dL_law_490 : decode cL_law 490 = .ok (.iconst 0, 1) := by decide +kernel
theorem dL_law_491 : decode cL_law 491 = .ok (.ireturn, 1) := by decide +kernel
theorem dL_law_492 : decode cL_law 492 = .ok (.goto 2068, 3) := by decide +kernel
theorem dL_law_495 : decode cL_law 495 = .ok (.aload_n 1, 1) := by decide +kernel
theorem dL_law_496 : decode cL_law 496 = .ok (.aload_n 0, 1) := by decide +kernel
theorem dL_law_497 : decode cL_law 497 = .ok (.iload 4, 2) := by decide +kernel
theorem dL_law_499 : decode cL_law 499 = .ok (.iconst 1, 1) := by decide +kernel
theorem dL_law_500 : decode cL_law 500 = .ok (.iadd, 1) := by decide +kernel
theorem dL_law_501 : decode cL_law 501 = .ok (.iaload, 1) := by decide +kernel
theorem dL_law_502 : decode cL_law 502 = .ok (.aload_n 0, 1) := by decide +kernel
theorem dL_law_503 : decode cL_law 503 = .ok (.iload 4, 2) := by decide +kernel
theorem dL_law_505 : decode cL_law 505 = .ok (.iconst 2, 1) := by decide +kernel
theorem dL_law_506 : decode cL_law 506 = .ok (.iadd, 1) := by decide +kernel
theorem dL_law_507 : decode cL_law 507 = .ok (.iaload, 1) := by decide +kernel
theorem dL_law_508 : decode cL_law 508 = .ok (.aload_n 3, 1) := by decide +kernel
theorem dL_law_509 : decode cL_law 509 = .ok (.invokestatic 153, 3) := by decide +kernel
theorem dL_law_512 : decode cL_law 512 = .ok (.istore 5, 2) := by decide +kernel
theorem dL_law_514 : decode cL_law 514 = .ok (.aload_n 2, 1) := by decide +kernel
theorem dL_law_515 : decode cL_law 515 = .ok (.aload_n 0, 1) := by decide +kernel
theorem dL_law_516 : decode cL_law 516 = .ok (.iload 4, 2) := by decide +kernel
theorem dL_law_518 : decode cL_law 518 = .ok (.iconst 1, 1) := by decide +kernel
theorem dL_law_519 : decode cL_law 519 = .ok (.iadd, 1) := by decide +kernel
theorem dL_law_520 : decode cL_law 520 = .ok (.iaload, 1) := by decide +kernel
theorem dL_law_521 : decode cL_law 521 = .ok (.aload_n 0, 1) := by decide +kernel
theorem dL_law_522 : decode cL_law 522 = .ok (.iload 4, 2) := by decide +kernel
theorem dL_law_524 : decode cL_law 524 = .ok (.iconst 2, 1) := by decide +kernel
theorem dL_law_525 : decode cL_law 525 = .ok (.iadd, 1) := by decide +kernel
theorem dL_law_526 : decode cL_law 526 = .ok (.iaload, 1) := by decide +kernel
theorem dL_law_527 : decode cL_law 527 = .ok (.invokevirtual 156, 3) := by decide +kernel
theorem dL_law_530 : decode cL_law 530 = .ok (.istore 6, 2) := by decide +kernel
theorem dL_law_532 : decode cL_law 532 = .ok (.aload_n 2, 1) := by decide +kernel
theorem dL_law_533 : decode cL_law 533 = .ok (.invokevirtual 130, 3) := by decide +kernel
theorem dL_law_536 : decode cL_law 536 = .ok (.iload 5, 2) := by decide +kernel
theorem dL_law_538 : decode cL_law 538 = .ok (.if_icmp .eq 5, 3) := by decide +kernel
theorem dL_law_541 : decode cL_law 541 = .ok (.iconst 0, 1) := by decide +kernel
theorem dL_law_542 : decode cL_law 542 = .ok (.ireturn, 1) := by decide +kernel
theorem dL_law_543 : decode cL_law 543 = .ok (.iload 5, 2) := by decide +kernel
theorem dL_law_545 : decode cL_law 545 = .ok (.ifCond .ne 15, 3) := by decide +kernel
theorem dL_law_548 : decode cL_law 548 = .ok (.aload_n 3, 1) := by decide +kernel
theorem dL_law_549 : decode cL_law 549 = .ok (.iconst 0, 1) := by decide +kernel
theorem dL_law_550 : decode cL_law 550 = .ok (.laload, 1) := by decide +kernel
theorem dL_law_551 : decode cL_law 551 = .ok (.iload 6, 2) := by decide +kernel
theorem dL_law_553 : decode cL_law 553 = .ok (.i2l, 1) := by decide +kernel
theorem dL_law_554 : decode cL_law 554 = .ok (.lcmp, 1) := by decide +kernel
theorem dL_law_555 : decode cL_law 555 = .ok (.ifCond .eq 5, 3) := by decide +kernel
theorem dL_law_558 : decode cL_law 558 = .ok (.iconst 0, 1) := by decide +kernel
theorem dL_law_559 : decode cL_law 559 = .ok (.ireturn, 1) := by decide +kernel
theorem dL_law_560 : decode cL_law 560 = .ok (.goto 2000, 3) := by decide +kernel
theorem dL_law_563 : decode cL_law 563 = .ok (.aload_n 1, 1) := by decide +kernel
theorem dL_law_564 : decode cL_law 564 = .ok (.aload_n 0, 1) := by decide +kernel
theorem dL_law_565 : decode cL_law 565 = .ok (.iload 4, 2) := by decide +kernel
theorem dL_law_567 : decode cL_law 567 = .ok (.iconst 1, 1) := by decide +kernel
theorem dL_law_568 : decode cL_law 568 = .ok (.iadd, 1) := by decide +kernel
theorem dL_law_569 : decode cL_law 569 = .ok (.iaload, 1) := by decide +kernel
theorem dL_law_570 : decode cL_law 570 = .ok (.aload_n 0, 1) := by decide +kernel
theorem dL_law_571 : decode cL_law 571 = .ok (.iload 4, 2) := by decide +kernel
theorem dL_law_573 : decode cL_law 573 = .ok (.iconst 2, 1) := by decide +kernel
theorem dL_law_574 : decode cL_law 574 = .ok (.iadd, 1) := by decide +kernel
theorem dL_law_575 : decode cL_law 575 = .ok (.iaload, 1) := by decide +kernel
theorem dL_law_576 : decode cL_law 576 = .ok (.aload_n 3, 1) := by decide +kernel
theorem dL_law_577 : decode cL_law 577 = .ok (.invokestatic 157, 3) := by decide +kernel
theorem dL_law_580 : decode cL_law 580 = .ok (.istore 5, 2) := by decide +kernel
theorem dL_law_582 : decode cL_law 582 = .ok (.aload_n 2, 1) := by decide +kernel
theorem dL_law_583 : decode cL_law 583 = .ok (.aload_n 0, 1) := by decide +kernel
theorem dL_law_584 : decode cL_law 584 = .ok (.iload 4, 2) := by decide +kernel
theorem dL_law_586 : decode cL_law 586 = .ok (.iconst 1, 1) := by decide +kernel
theorem dL_law_587 : decode cL_law 587 = .ok (.iadd, 1) := by decide +kernel
theorem dL_law_588 : decode cL_law 588 = .ok (.iaload, 1) := by decide +kernel
theorem dL_law_589 : decode cL_law 589 = .ok (.aload_n 0, 1) := by decide +kernel
theorem dL_law_590 : decode cL_law 590 = .ok (.iload 4, 2) := by decide +kernel
theorem dL_law_592 : decode cL_law 592 = .ok (.iconst 2, 1) := by decide +kernel
theorem dL_law_593 : decode cL_law 593 = .ok (.iadd, 1) := by decide +kernel
theorem dL_law_594 : decode cL_law 594 = .ok (.iaload, 1) := by decide +kernel
theorem dL_law_595 : decode cL_law 595 = .ok (.invokevirtual 159, 3) := by decide +kernel
theorem dL_law_598 : decode cL_law 598 = .ok (.istore 6, 2) := by decide +kernel
theorem dL_law_600 : decode cL_law 600 = .ok (.aload_n 2, 1) := by decide +kernel
theorem dL_law_601 : decode cL_law 601 = .ok (.invokevirtual 130, 3) := by decide +kernel
theorem dL_law_604 : decode cL_law 604 = .ok (.iload 5, 2) := by decide +kernel
theorem dL_law_606 : decode cL_law 606 = .ok (.if_icmp .eq 5, 3) := by decide +kernel
theorem dL_law_609 : decode cL_law 609 = .ok (.iconst 0, 1) := by decide +kernel
theorem dL_law_610 : decode cL_law 610 = .ok (.ireturn, 1) := by decide +kernel
theorem dL_law_611 : decode cL_law 611 = .ok (.iload 5, 2) := by decide +kernel
theorem dL_law_613 : decode cL_law 613 = .ok (.ifCond .ne 15, 3) := by decide +kernel
theorem dL_law_616 : decode cL_law 616 = .ok (.aload_n 3, 1) := by decide +kernel
theorem dL_law_617 : decode cL_law 617 = .ok (.iconst 0, 1) := by decide +kernel
theorem dL_law_618 : decode cL_law 618 = .ok (.laload, 1) := by decide +kernel
theorem dL_law_619 : decode cL_law 619 = .ok (.iload 6, 2) := by decide +kernel
theorem dL_law_621 : decode cL_law 621 = .ok (.i2l, 1) := by decide +kernel
theorem dL_law_622 : decode cL_law 622 = .ok (.lcmp, 1) := by decide +kernel
theorem dL_law_623 : decode cL_law 623 = .ok (.ifCond .eq 5, 3) := by decide +kernel
theorem dL_law_626 : decode cL_law 626 = .ok (.iconst 0, 1) := by decide +kernel
theorem dL_law_627 : decode cL_law 627 = .ok (.ireturn, 1) := by decide +kernel
theorem dL_law_628 : decode cL_law 628 = .ok (.goto 1932, 3) := by decide +kernel
theorem dL_law_631 : decode cL_law 631 = .ok (.aload_n 1, 1) := by decide +kernel
theorem dL_law_632 : decode cL_law 632 = .ok (.aload_n 0, 1) := by decide +kernel
theorem dL_law_633 : decode cL_law 633 = .ok (.iload 4, 2) := by decide +kernel
theorem dL_law_635 : decode cL_law 635 = .ok (.iconst 1, 1) := by decide +kernel
theorem dL_law_636 : decode cL_law 636 = .ok (.iadd, 1) := by decide +kernel
theorem dL_law_637 : decode cL_law 637 = .ok (.iaload, 1) := by decide +kernel
theorem dL_law_638 : decode cL_law 638 = .ok (.aload_n 0, 1) := by decide +kernel
theorem dL_law_639 : decode cL_law 639 = .ok (.iload 4, 2) := by decide +kernel
theorem dL_law_641 : decode cL_law 641 = .ok (.iconst 2, 1) := by decide +kernel
theorem dL_law_642 : decode cL_law 642 = .ok (.iadd, 1) := by decide +kernel
theorem dL_law_643 : decode cL_law 643 = .ok (.iaload, 1) := by decide +kernel
theorem dL_law_644 : decode cL_law 644 = .ok (.aload_n 3, 1) := by decide +kernel
theorem dL_law_645 : decode cL_law 645 = .ok (.invokestatic 160, 3) := by decide +kernel
theorem dL_law_648 : decode cL_law 648 = .ok (.istore 5, 2) := by decide +kernel
theorem dL_law_650 : decode cL_law 650 = .ok (.aload_n 2, 1) := by decide +kernel
theorem dL_law_651 : decode cL_law 651 = .ok (.aload_n 0, 1) := by decide +kernel
theorem dL_law_652 : decode cL_law 652 = .ok (.iload 4, 2) := by decide +kernel
theorem dL_law_654 : decode cL_law 654 = .ok (.iconst 1, 1) := by decide +kernel
theorem dL_law_655 : decode cL_law 655 = .ok (.iadd, 1) := by decide +kernel
theorem dL_law_656 : decode cL_law 656 = .ok (.iaload, 1) := by decide +kernel
theorem dL_law_657 : decode cL_law 657 = .ok (.aload_n 0, 1) := by decide +kernel
theorem dL_law_658 : decode cL_law 658 = .ok (.iload 4, 2) := by decide +kernel
theorem dL_law_660 : decode cL_law 660 = .ok (.iconst 2, 1) := by decide +kernel
theorem dL_law_661 : decode cL_law 661 = .ok (.iadd, 1) := by decide +kernel
theorem dL_law_662 : decode cL_law 662 = .ok (.iaload, 1) := by decide +kernel
theorem dL_law_663 : decode cL_law 663 = .ok (.invokevirtual 162, 3) := by decide +kernel
theorem dL_law_666 : decode cL_law 666 = .ok (.istore 6, 2) := by decide +kernel
theorem dL_law_668 : decode cL_law 668 = .ok (.aload_n 2, 1) := by decide +kernel
theorem dL_law_669 : decode cL_law 669 = .ok (.invokevirtual 130, 3) := by decide +kernel
theorem dL_law_672 : decode cL_law 672 = .ok (.iload 5, 2) := by decide +kernel
theorem dL_law_674 : decode cL_law 674 = .ok (.if_icmp .eq 5, 3) := by decide +kernel
theorem dL_law_677 : decode cL_law 677 = .ok (.iconst 0, 1) := by decide +kernel
theorem dL_law_678 : decode cL_law 678 = .ok (.ireturn, 1) := by decide +kernel
theorem dL_law_679 : decode cL_law 679 = .ok (.iload 5, 2) := by decide +kernel
theorem dL_law_681 : decode cL_law 681 = .ok (.ifCond .ne 15, 3) := by decide +kernel
theorem dL_law_684 : decode cL_law 684 = .ok (.aload_n 3, 1) := by decide +kernel
theorem dL_law_685 : decode cL_law 685 = .ok (.iconst 0, 1) := by decide +kernel
theorem dL_law_686 : decode cL_law 686 = .ok (.laload, 1) := by decide +kernel
theorem dL_law_687 : decode cL_law 687 = .ok (.iload 6, 2) := by decide +kernel
theorem dL_law_689 : decode cL_law 689 = .ok (.i2l, 1) := by decide +kernel
theorem dL_law_690 : decode cL_law 690 = .ok (.lcmp, 1) := by decide +kernel
theorem dL_law_691 : decode cL_law 691 = .ok (.ifCond .eq 5, 3) := by decide +kernel
theorem dL_law_694 : decode cL_law 694 = .ok (.iconst 0, 1) := by decide +kernel
theorem dL_law_695 : decode cL_law 695 = .ok (.ireturn, 1) := by decide +kernel
theorem dL_law_696 : decode cL_law 696 = .ok (.goto 1864, 3) := by decide +kernel
theorem dL_law_699 : decode cL_law 699 = .ok (.aload_n 1, 1) := by decide +kernel
theorem dL_law_700 : decode cL_law 700 = .ok (.aload_n 0, 1) := by decide +kernel
theorem dL_law_701 : decode cL_law 701 = .ok (.iload 4, 2) := by decide +kernel
theorem dL_law_703 : decode cL_law 703 = .ok (.iconst 1, 1) := by decide +kernel
theorem dL_law_704 : decode cL_law 704 = .ok (.iadd, 1) := by decide +kernel
theorem dL_law_705 : decode cL_law 705 = .ok (.iaload, 1) := by decide +kernel
theorem dL_law_706 : decode cL_law 706 = .ok (.aload_n 0, 1) := by decide +kernel
theorem dL_law_707 : decode cL_law 707 = .ok (.iload 4, 2) := by decide +kernel
theorem dL_law_709 : decode cL_law 709 = .ok (.iconst 2, 1) := by decide +kernel
theorem dL_law_710 : decode cL_law 710 = .ok (.iadd, 1) := by decide +kernel
theorem dL_law_711 : decode cL_law 711 = .ok (.iaload, 1) := by decide +kernel
theorem dL_law_712 : decode cL_law 712 = .ok (.aload_n 3, 1) := by decide +kernel
theorem dL_law_713 : decode cL_law 713 = .ok (.invokestatic 163, 3) := by decide +kernel
theorem dL_law_716 : decode cL_law 716 = .ok (.istore 5, 2) := by decide +kernel
theorem dL_law_718 : decode cL_law 718 = .ok (.aload_n 2, 1) := by decide +kernel
theorem dL_law_719 : decode cL_law 719 = .ok (.aload_n 0, 1) := by decide +kernel
theorem dL_law_720 : decode cL_law 720 = .ok (.iload 4, 2) := by decide +kernel
theorem dL_law_722 : decode cL_law 722 = .ok (.iconst 1, 1) := by decide +kernel
theorem dL_law_723 : decode cL_law 723 = .ok (.iadd, 1) := by decide +kernel
theorem dL_law_724 : decode cL_law 724 = .ok (.iaload, 1) := by decide +kernel
theorem dL_law_725 : decode cL_law 725 = .ok (.aload_n 0, 1) := by decide +kernel
theorem dL_law_726 : decode cL_law 726 = .ok (.iload 4, 2) := by decide +kernel
theorem dL_law_728 : decode cL_law 728 = .ok (.iconst 2, 1) := by decide +kernel
theorem dL_law_729 : decode cL_law 729 = .ok (.iadd, 1) := by decide +kernel
theorem dL_law_730 : decode cL_law 730 = .ok (.iaload, 1) := by decide +kernel
theorem dL_law_731 : decode cL_law 731 = .ok (.invokevirtual 165, 3) := by decide +kernel
theorem dL_law_734 : decode cL_law 734 = .ok (.istore 6, 2) := by decide +kernel
theorem dL_law_736 : decode cL_law 736 = .ok (.aload_n 2, 1) := by decide +kernel
theorem dL_law_737 : decode cL_law 737 = .ok (.invokevirtual 130, 3) := by decide +kernel
theorem dL_law_740 : decode cL_law 740 = .ok (.iload 5, 2) := by decide +kernel
theorem dL_law_742 : decode cL_law 742 = .ok (.if_icmp .eq 5, 3) := by decide +kernel
theorem dL_law_745 : decode cL_law 745 = .ok (.iconst 0, 1) := by decide +kernel
theorem dL_law_746 : decode cL_law 746 = .ok (.ireturn, 1) := by decide +kernel
theorem dL_law_747 : decode cL_law 747 = .ok (.iload 5, 2) := by decide +kernel
theorem dL_law_749 : decode cL_law 749 = .ok (.ifCond .ne 15, 3) := by decide +kernel
theorem dL_law_752 : decode cL_law 752 = .ok (.aload_n 3, 1) := by decide +kernel
theorem dL_law_753 : decode cL_law 753 = .ok (.iconst 0, 1) := by decide +kernel
theorem dL_law_754 : decode cL_law 754 = .ok (.laload, 1) := by decide +kernel
theorem dL_law_755 : decode cL_law 755 = .ok (.iload 6, 2) := by decide +kernel
theorem dL_law_757 : decode cL_law 757 = .ok (.i2l, 1) := by decide +kernel
theorem dL_law_758 : decode cL_law 758 = .ok (.lcmp, 1) := by decide +kernel
theorem dL_law_759 : decode cL_law 759 = .ok (.ifCond .eq 5, 3) := by decide +kernel
theorem dL_law_762 : decode cL_law 762 = .ok (.iconst 0, 1) := by decide +kernel
theorem dL_law_763 : decode cL_law 763 = .ok (.ireturn, 1) := by decide +kernel
theorem dL_law_764 : decode cL_law 764 = .ok (.goto 1796, 3) := by decide +kernel
theorem dL_law_767 : decode cL_law 767 = .ok (.aload_n 1, 1) := by decide +kernel
theorem dL_law_768 : decode cL_law 768 = .ok (.aload_n 0, 1) := by decide +kernel
theorem dL_law_769 : decode cL_law 769 = .ok (.iload 4, 2) := by decide +kernel
theorem dL_law_771 : decode cL_law 771 = .ok (.iconst 1, 1) := by decide +kernel
theorem dL_law_772 : decode cL_law 772 = .ok (.iadd, 1) := by decide +kernel
theorem dL_law_773 : decode cL_law 773 = .ok (.iaload, 1) := by decide +kernel
theorem dL_law_774 : decode cL_law 774 = .ok (.aload_n 0, 1) := by decide +kernel
theorem dL_law_775 : decode cL_law 775 = .ok (.iload 4, 2) := by decide +kernel
theorem dL_law_777 : decode cL_law 777 = .ok (.iconst 2, 1) := by decide +kernel
theorem dL_law_778 : decode cL_law 778 = .ok (.iadd, 1) := by decide +kernel
theorem dL_law_779 : decode cL_law 779 = .ok (.iaload, 1) := by decide +kernel
theorem dL_law_780 : decode cL_law 780 = .ok (.aload_n 3, 1) := by decide +kernel
theorem dL_law_781 : decode cL_law 781 = .ok (.invokestatic 166, 3) := by decide +kernel
theorem dL_law_784 : decode cL_law 784 = .ok (.istore 5, 2) := by decide +kernel
theorem dL_law_786 : decode cL_law 786 = .ok (.aload_n 2, 1) := by decide +kernel
theorem dL_law_787 : decode cL_law 787 = .ok (.aload_n 0, 1) := by decide +kernel
theorem dL_law_788 : decode cL_law 788 = .ok (.iload 4, 2) := by decide +kernel
theorem dL_law_790 : decode cL_law 790 = .ok (.iconst 1, 1) := by decide +kernel
theorem dL_law_791 : decode cL_law 791 = .ok (.iadd, 1) := by decide +kernel
theorem dL_law_792 : decode cL_law 792 = .ok (.iaload, 1) := by decide +kernel
theorem dL_law_793 : decode cL_law 793 = .ok (.aload_n 0, 1) := by decide +kernel
theorem dL_law_794 : decode cL_law 794 = .ok (.iload 4, 2) := by decide +kernel
theorem dL_law_796 : decode cL_law 796 = .ok (.iconst 2, 1) := by decide +kernel
theorem dL_law_797 : decode cL_law 797 = .ok (.iadd, 1) := by decide +kernel
theorem dL_law_798 : decode cL_law 798 = .ok (.iaload, 1) := by decide +kernel
theorem dL_law_799 : decode cL_law 799 = .ok (.invokevirtual 168, 3) := by decide +kernel
theorem dL_law_802 : decode cL_law 802 = .ok (.istore 6, 2) := by decide +kernel
theorem dL_law_804 : decode cL_law 804 = .ok (.aload_n 2, 1) := by decide +kernel
theorem dL_law_805 : decode cL_law 805 = .ok (.invokevirtual 130, 3) := by decide +kernel
theorem dL_law_808 : decode cL_law 808 = .ok (.iload 5, 2) := by decide +kernel
theorem dL_law_810 : decode cL_law 810 = .ok (.if_icmp .eq 5, 3) := by decide +kernel
theorem dL_law_813 : decode cL_law 813 = .ok (.iconst 0, 1) := by decide +kernel
theorem dL_law_814 : decode cL_law 814 = .ok (.ireturn, 1) := by decide +kernel
theorem dL_law_815 : decode cL_law 815 = .ok (.iload 5, 2) := by decide +kernel
theorem dL_law_817 : decode cL_law 817 = .ok (.ifCond .ne 15, 3) := by decide +kernel
theorem dL_law_820 : decode cL_law 820 = .ok (.aload_n 3, 1) := by decide +kernel
theorem dL_law_821 : decode cL_law 821 = .ok (.iconst 0, 1) := by decide +kernel
theorem dL_law_822 : decode cL_law 822 = .ok (.laload, 1) := by decide +kernel
theorem dL_law_823 : decode cL_law 823 = .ok (.iload 6, 2) := by decide +kernel
theorem dL_law_825 : decode cL_law 825 = .ok (.i2l, 1) := by decide +kernel
theorem dL_law_826 : decode cL_law 826 = .ok (.lcmp, 1) := by decide +kernel
theorem dL_law_827 : decode cL_law 827 = .ok (.ifCond .eq 5, 3) := by decide +kernel
theorem dL_law_830 : decode cL_law 830 = .ok (.iconst 0, 1) := by decide +kernel
theorem dL_law_831 : decode cL_law 831 = .ok (.ireturn, 1) := by decide +kernel
theorem dL_law_832 : decode cL_law 832 = .ok (.goto 1728, 3) := by decide +kernel
theorem dL_law_835 : decode cL_law 835 = .ok (.aload_n 1, 1) := by decide +kernel
theorem dL_law_836 : decode cL_law 836 = .ok (.aload_n 0, 1) := by decide +kernel
theorem dL_law_837 : decode cL_law 837 = .ok (.iload 4, 2) := by decide +kernel
theorem dL_law_839 : decode cL_law 839 = .ok (.iconst 1, 1) := by decide +kernel
theorem dL_law_840 : decode cL_law 840 = .ok (.iadd, 1) := by decide +kernel
theorem dL_law_841 : decode cL_law 841 = .ok (.iaload, 1) := by decide +kernel
theorem dL_law_842 : decode cL_law 842 = .ok (.aload_n 3, 1) := by decide +kernel
theorem dL_law_843 : decode cL_law 843 = .ok (.invokestatic 169, 3) := by decide +kernel
theorem dL_law_846 : decode cL_law 846 = .ok (.istore 5, 2) := by decide +kernel
theorem dL_law_848 : decode cL_law 848 = .ok (.aload_n 2, 1) := by decide +kernel
theorem dL_law_849 : decode cL_law 849 = .ok (.aload_n 0, 1) := by decide +kernel
theorem dL_law_850 : decode cL_law 850 = .ok (.iload 4, 2) := by decide +kernel
theorem dL_law_852 : decode cL_law 852 = .ok (.iconst 1, 1) := by decide +kernel
theorem dL_law_853 : decode cL_law 853 = .ok (.iadd, 1) := by decide +kernel
theorem dL_law_854 : decode cL_law 854 = .ok (.iaload, 1) := by decide +kernel
theorem dL_law_855 : decode cL_law 855 = .ok (.invokevirtual 171, 3) := by decide +kernel
theorem dL_law_858 : decode cL_law 858 = .ok (.istore 6, 2) := by decide +kernel
theorem dL_law_860 : decode cL_law 860 = .ok (.aload_n 2, 1) := by decide +kernel
theorem dL_law_861 : decode cL_law 861 = .ok (.invokevirtual 130, 3) := by decide +kernel
theorem dL_law_864 : decode cL_law 864 = .ok (.iload 5, 2) := by decide +kernel
theorem dL_law_866 : decode cL_law 866 = .ok (.if_icmp .eq 5, 3) := by decide +kernel
theorem dL_law_869 : decode cL_law 869 = .ok (.iconst 0, 1) := by decide +kernel
theorem dL_law_870 : decode cL_law 870 = .ok (.ireturn, 1) := by decide +kernel
theorem dL_law_871 : decode cL_law 871 = .ok (.iload 5, 2) := by decide +kernel
theorem dL_law_873 : decode cL_law 873 = .ok (.ifCond .ne 15, 3) := by decide +kernel
theorem dL_law_876 : decode cL_law 876 = .ok (.aload_n 3, 1) := by decide +kernel
theorem dL_law_877 : decode cL_law 877 = .ok (.iconst 0, 1) := by decide +kernel
theorem dL_law_878 : decode cL_law 878 = .ok (.laload, 1) := by decide +kernel
theorem dL_law_879 : decode cL_law 879 = .ok (.iload 6, 2) := by decide +kernel
theorem dL_law_881 : decode cL_law 881 = .ok (.i2l, 1) := by decide +kernel
theorem dL_law_882 : decode cL_law 882 = .ok (.lcmp, 1) := by decide +kernel
theorem dL_law_883 : decode cL_law 883 = .ok (.ifCond .eq 5, 3) := by decide +kernel
theorem dL_law_886 : decode cL_law 886 = .ok (.iconst 0, 1) := by decide +kernel
theorem dL_law_887 : decode cL_law 887 = .ok (.ireturn, 1) := by decide +kernel
theorem dL_law_888 : decode cL_law 888 = .ok (.goto 1672, 3) := by decide +kernel
theorem dL_law_891 : decode cL_law 891 = .ok (.aload_n 1, 1) := by decide +kernel
theorem dL_law_892 : decode cL_law 892 = .ok (.aload_n 0, 1) := by decide +kernel
theorem dL_law_893 : decode cL_law 893 = .ok (.iload 4, 2) := by decide +kernel
theorem dL_law_895 : decode cL_law 895 = .ok (.iconst 1, 1) := by decide +kernel
theorem dL_law_896 : decode cL_law 896 = .ok (.iadd, 1) := by decide +kernel
theorem dL_law_897 : decode cL_law 897 = .ok (.iaload, 1) := by decide +kernel
theorem dL_law_898 : decode cL_law 898 = .ok (.aload_n 3, 1) := by decide +kernel
theorem dL_law_899 : decode cL_law 899 = .ok (.invokestatic 172, 3) := by decide +kernel
theorem dL_law_902 : decode cL_law 902 = .ok (.istore 5, 2) := by decide +kernel
theorem dL_law_904 : decode cL_law 904 = .ok (.aload_n 2, 1) := by decide +kernel
theorem dL_law_905 : decode cL_law 905 = .ok (.aload_n 0, 1) := by decide +kernel
theorem dL_law_906 : decode cL_law 906 = .ok (.iload 4, 2) := by decide +kernel
theorem dL_law_908 : decode cL_law 908 = .ok (.iconst 1, 1) := by decide +kernel
theorem dL_law_909 : decode cL_law 909 = .ok (.iadd, 1) := by decide +kernel
theorem dL_law_910 : decode cL_law 910 = .ok (.iaload, 1) := by decide +kernel
theorem dL_law_911 : decode cL_law 911 = .ok (.invokevirtual 174, 3) := by decide +kernel
theorem dL_law_914 : decode cL_law 914 = .ok (.istore 6, 2) := by decide +kernel
theorem dL_law_916 : decode cL_law 916 = .ok (.aload_n 2, 1) := by decide +kernel
theorem dL_law_917 : decode cL_law 917 = .ok (.invokevirtual 130, 3) := by decide +kernel
theorem dL_law_920 : decode cL_law 920 = .ok (.iload 5, 2) := by decide +kernel
theorem dL_law_922 : decode cL_law 922 = .ok (.if_icmp .eq 5, 3) := by decide +kernel
theorem dL_law_925 : decode cL_law 925 = .ok (.iconst 0, 1) := by decide +kernel
theorem dL_law_926 : decode cL_law 926 = .ok (.ireturn, 1) := by decide +kernel
theorem dL_law_927 : decode cL_law 927 = .ok (.iload 5, 2) := by decide +kernel
theorem dL_law_929 : decode cL_law 929 = .ok (.ifCond .ne 15, 3) := by decide +kernel
theorem dL_law_932 : decode cL_law 932 = .ok (.aload_n 3, 1) := by decide +kernel
theorem dL_law_933 : decode cL_law 933 = .ok (.iconst 0, 1) := by decide +kernel
theorem dL_law_934 : decode cL_law 934 = .ok (.laload, 1) := by decide +kernel
theorem dL_law_935 : decode cL_law 935 = .ok (.iload 6, 2) := by decide +kernel
theorem dL_law_937 : decode cL_law 937 = .ok (.i2l, 1) := by decide +kernel
theorem dL_law_938 : decode cL_law 938 = .ok (.lcmp, 1) := by decide +kernel
theorem dL_law_939 : decode cL_law 939 = .ok (.ifCond .eq 5, 3) := by decide +kernel
theorem dL_law_942 : decode cL_law 942 = .ok (.iconst 0, 1) := by decide +kernel
theorem dL_law_943 : decode cL_law 943 = .ok (.ireturn, 1) := by decide +kernel
theorem dL_law_944 : decode cL_law 944 = .ok (.goto 1616, 3) := by decide +kernel
theorem dL_law_947 : decode cL_law 947 = .ok (.aload_n 1, 1) := by decide +kernel
theorem dL_law_948 : decode cL_law 948 = .ok (.invokevirtual 175, 3) := by decide +kernel
theorem dL_law_951 : decode cL_law 951 = .ok (.aload_n 2, 1) := by decide +kernel
theorem dL_law_952 : decode cL_law 952 = .ok (.invokevirtual 178, 3) := by decide +kernel
theorem dL_law_955 : decode cL_law 955 = .ok (.if_icmp .eq 1605, 3) := by decide +kernel
theorem dL_law_958 : decode cL_law 958 = .ok (.iconst 0, 1) := by decide +kernel
theorem dL_law_959 : decode cL_law 959 = .ok (.ireturn, 1) := by decide +kernel
theorem dL_law_960 : decode cL_law 960 = .ok (.aload_n 1, 1) := by decide +kernel
theorem dL_law_961 : decode cL_law 961 = .ok (.invokevirtual 179, 3) := by decide +kernel
theorem dL_law_964 : decode cL_law 964 = .ok (.aload_n 2, 1) := by decide +kernel
theorem dL_law_965 : decode cL_law 965 = .ok (.invokevirtual 182, 3) := by decide +kernel
theorem dL_law_968 : decode cL_law 968 = .ok (.if_icmp .eq 1592, 3) := by decide +kernel
theorem dL_law_971 : decode cL_law 971 = .ok (.iconst 0, 1) := by decide +kernel
theorem dL_law_972 : decode cL_law 972 = .ok (.ireturn, 1) := by decide +kernel
theorem dL_law_973 : decode cL_law 973 = .ok (.aload_n 1, 1) := by decide +kernel
theorem dL_law_974 : decode cL_law 974 = .ok (.invokevirtual 183, 3) := by decide +kernel
theorem dL_law_977 : decode cL_law 977 = .ok (.aload_n 2, 1) := by decide +kernel
theorem dL_law_978 : decode cL_law 978 = .ok (.invokevirtual 186, 3) := by decide +kernel
theorem dL_law_981 : decode cL_law 981 = .ok (.if_icmp .eq 1579, 3) := by decide +kernel
theorem dL_law_984 : decode cL_law 984 = .ok (.iconst 0, 1) := by decide +kernel
theorem dL_law_985 : decode cL_law 985 = .ok (.ireturn, 1) := by decide +kernel
theorem dL_law_986 : decode cL_law 986 = .ok (.aload_n 1, 1) := by decide +kernel
theorem dL_law_987 : decode cL_law 987 = .ok (.aload_n 0, 1) := by decide +kernel
theorem dL_law_988 : decode cL_law 988 = .ok (.iload 4, 2) := by decide +kernel
theorem dL_law_990 : decode cL_law 990 = .ok (.iconst 1, 1) := by decide +kernel
theorem dL_law_991 : decode cL_law 991 = .ok (.iadd, 1) := by decide +kernel
theorem dL_law_992 : decode cL_law 992 = .ok (.iaload, 1) := by decide +kernel
theorem dL_law_993 : decode cL_law 993 = .ok (.aload_n 3, 1) := by decide +kernel
theorem dL_law_994 : decode cL_law 994 = .ok (.invokestatic 187, 3) := by decide +kernel
theorem dL_law_997 : decode cL_law 997 = .ok (.istore 5, 2) := by decide +kernel
theorem dL_law_999 : decode cL_law 999 = .ok (.aload_n 2, 1) := by decide +kernel
theorem dL_law_1000 : decode cL_law 1000 = .ok (.aload_n 0, 1) := by decide +kernel
theorem dL_law_1001 : decode cL_law 1001 = .ok (.iload 4, 2) := by decide +kernel
theorem dL_law_1003 : decode cL_law 1003 = .ok (.iconst 1, 1) := by decide +kernel
theorem dL_law_1004 : decode cL_law 1004 = .ok (.iadd, 1) := by decide +kernel
theorem dL_law_1005 : decode cL_law 1005 = .ok (.iaload, 1) := by decide +kernel
theorem dL_law_1006 : decode cL_law 1006 = .ok (.invokevirtual 189, 3) := by decide +kernel
theorem dL_law_1009 : decode cL_law 1009 = .ok (.istore 6, 2) := by decide +kernel
theorem dL_law_1011 : decode cL_law 1011 = .ok (.aload_n 2, 1) := by decide +kernel
theorem dL_law_1012 : decode cL_law 1012 = .ok (.invokevirtual 130, 3) := by decide +kernel
theorem dL_law_1015 : decode cL_law 1015 = .ok (.iload 5, 2) := by decide +kernel
theorem dL_law_1017 : decode cL_law 1017 = .ok (.if_icmp .eq 5, 3) := by decide +kernel
theorem dL_law_1020 : decode cL_law 1020 = .ok (.iconst 0, 1) := by decide +kernel
theorem dL_law_1021 : decode cL_law 1021 = .ok (.ireturn, 1) := by decide +kernel
theorem dL_law_1022 : decode cL_law 1022 = .ok (.iload 5, 2) := by decide +kernel
theorem dL_law_1024 : decode cL_law 1024 = .ok (.ifCond .ne 15, 3) := by decide +kernel
theorem dL_law_1027 : decode cL_law 1027 = .ok (.aload_n 3, 1) := by decide +kernel
theorem dL_law_1028 : decode cL_law 1028 = .ok (.iconst 0, 1) := by decide +kernel
theorem dL_law_1029 : decode cL_law 1029 = .ok (.laload, 1) := by decide +kernel
theorem dL_law_1030 : decode cL_law 1030 = .ok (.iload 6, 2) := by decide +kernel
theorem dL_law_1032 : decode cL_law 1032 = .ok (.i2l, 1) := by decide +kernel
theorem dL_law_1033 : decode cL_law 1033 = .ok (.lcmp, 1) := by decide +kernel
theorem dL_law_1034 : decode cL_law 1034 = .ok (.ifCond .eq 5, 3) := by decide +kernel
theorem dL_law_1037 : decode cL_law 1037 = .ok (.iconst 0, 1) := by decide +kernel
theorem dL_law_1038 : decode cL_law 1038 = .ok (.ireturn, 1) := by decide +kernel
theorem dL_law_1039 : decode cL_law 1039 = .ok (.goto 1521, 3) := by decide +kernel
theorem dL_law_1042 : decode cL_law 1042 = .ok (.aload_n 1, 1) := by decide +kernel
theorem dL_law_1043 : decode cL_law 1043 = .ok (.aload_n 0, 1) := by decide +kernel
theorem dL_law_1044 : decode cL_law 1044 = .ok (.iload 4, 2) := by decide +kernel
theorem dL_law_1046 : decode cL_law 1046 = .ok (.iconst 1, 1) := by decide +kernel
theorem dL_law_1047 : decode cL_law 1047 = .ok (.iadd, 1) := by decide +kernel
theorem dL_law_1048 : decode cL_law 1048 = .ok (.iaload, 1) := by decide +kernel
theorem dL_law_1049 : decode cL_law 1049 = .ok (.aload_n 3, 1) := by decide +kernel
theorem dL_law_1050 : decode cL_law 1050 = .ok (.invokestatic 190, 3) := by decide +kernel
theorem dL_law_1053 : decode cL_law 1053 = .ok (.istore 5, 2) := by decide +kernel
theorem dL_law_1055 : decode cL_law 1055 = .ok (.aload_n 2, 1) := by decide +kernel
theorem dL_law_1056 : decode cL_law 1056 = .ok (.aload_n 0, 1) := by decide +kernel
theorem dL_law_1057 : decode cL_law 1057 = .ok (.iload 4, 2) := by decide +kernel
theorem dL_law_1059 : decode cL_law 1059 = .ok (.iconst 1, 1) := by decide +kernel
theorem dL_law_1060 : decode cL_law 1060 = .ok (.iadd, 1) := by decide +kernel
theorem dL_law_1061 : decode cL_law 1061 = .ok (.iaload, 1) := by decide +kernel
theorem dL_law_1062 : decode cL_law 1062 = .ok (.invokevirtual 192, 3) := by decide +kernel
theorem dL_law_1065 : decode cL_law 1065 = .ok (.istore 6, 2) := by decide +kernel
theorem dL_law_1067 : decode cL_law 1067 = .ok (.aload_n 2, 1) := by decide +kernel
theorem dL_law_1068 : decode cL_law 1068 = .ok (.invokevirtual 130, 3) := by decide +kernel
theorem dL_law_1071 : decode cL_law 1071 = .ok (.iload 5, 2) := by decide +kernel
theorem dL_law_1073 : decode cL_law 1073 = .ok (.if_icmp .eq 5, 3) := by decide +kernel
theorem dL_law_1076 : decode cL_law 1076 = .ok (.iconst 0, 1) := by decide +kernel
theorem dL_law_1077 : decode cL_law 1077 = .ok (.ireturn, 1) := by decide +kernel
theorem dL_law_1078 : decode cL_law 1078 = .ok (.iload 5, 2) := by decide +kernel
theorem dL_law_1080 : decode cL_law 1080 = .ok (.ifCond .ne 15, 3) := by decide +kernel
theorem dL_law_1083 : decode cL_law 1083 = .ok (.aload_n 3, 1) := by decide +kernel
theorem dL_law_1084 : decode cL_law 1084 = .ok (.iconst 0, 1) := by decide +kernel
theorem dL_law_1085 : decode cL_law 1085 = .ok (.laload, 1) := by decide +kernel
theorem dL_law_1086 : decode cL_law 1086 = .ok (.iload 6, 2) := by decide +kernel
theorem dL_law_1088 : decode cL_law 1088 = .ok (.i2l, 1) := by decide +kernel
theorem dL_law_1089 : decode cL_law 1089 = .ok (.lcmp, 1) := by decide +kernel
theorem dL_law_1090 : decode cL_law 1090 = .ok (.ifCond .eq 5, 3) := by decide +kernel
theorem dL_law_1093 : decode cL_law 1093 = .ok (.iconst 0, 1) := by decide +kernel
theorem dL_law_1094 : decode cL_law 1094 = .ok (.ireturn, 1) := by decide +kernel
theorem dL_law_1095 : decode cL_law 1095 = .ok (.goto 1465, 3) := by decide +kernel
theorem dL_law_1098 : decode cL_law 1098 = .ok (.aload_n 1, 1) := by decide +kernel
theorem dL_law_1099 : decode cL_law 1099 = .ok (.invokevirtual 193, 3) := by decide +kernel
theorem dL_law_1102 : decode cL_law 1102 = .ok (.aload_n 2, 1) := by decide +kernel
theorem dL_law_1103 : decode cL_law 1103 = .ok (.invokevirtual 196, 3) := by decide +kernel
theorem dL_law_1106 : decode cL_law 1106 = .ok (.if_icmp .eq 1454, 3) := by decide +kernel
theorem dL_law_1109 : decode cL_law 1109 = .ok (.iconst 0, 1) := by decide +kernel
theorem dL_law_1110 : decode cL_law 1110 = .ok (.ireturn, 1) := by decide +kernel
theorem dL_law_1111 : decode cL_law 1111 = .ok (.aload_n 1, 1) := by decide +kernel
theorem dL_law_1112 : decode cL_law 1112 = .ok (.aload_n 0, 1) := by decide +kernel
theorem dL_law_1113 : decode cL_law 1113 = .ok (.iload 4, 2) := by decide +kernel
theorem dL_law_1115 : decode cL_law 1115 = .ok (.iconst 1, 1) := by decide +kernel
theorem dL_law_1116 : decode cL_law 1116 = .ok (.iadd, 1) := by decide +kernel
theorem dL_law_1117 : decode cL_law 1117 = .ok (.iaload, 1) := by decide +kernel
theorem dL_law_1118 : decode cL_law 1118 = .ok (.aload_n 3, 1) := by decide +kernel
theorem dL_law_1119 : decode cL_law 1119 = .ok (.invokestatic 197, 3) := by decide +kernel
theorem dL_law_1122 : decode cL_law 1122 = .ok (.istore 5, 2) := by decide +kernel
theorem dL_law_1124 : decode cL_law 1124 = .ok (.aload_n 2, 1) := by decide +kernel
theorem dL_law_1125 : decode cL_law 1125 = .ok (.aload_n 0, 1) := by decide +kernel
theorem dL_law_1126 : decode cL_law 1126 = .ok (.iload 4, 2) := by decide +kernel
theorem dL_law_1128 : decode cL_law 1128 = .ok (.iconst 1, 1) := by decide +kernel
theorem dL_law_1129 : decode cL_law 1129 = .ok (.iadd, 1) := by decide +kernel
theorem dL_law_1130 : decode cL_law 1130 = .ok (.iaload, 1) := by decide +kernel
theorem dL_law_1131 : decode cL_law 1131 = .ok (.invokevirtual 199, 3) := by decide +kernel
theorem dL_law_1134 : decode cL_law 1134 = .ok (.istore 6, 2) := by decide +kernel
theorem dL_law_1136 : decode cL_law 1136 = .ok (.aload_n 2, 1) := by decide +kernel
theorem dL_law_1137 : decode cL_law 1137 = .ok (.invokevirtual 130, 3) := by decide +kernel
theorem dL_law_1140 : decode cL_law 1140 = .ok (.iload 5, 2) := by decide +kernel
theorem dL_law_1142 : decode cL_law 1142 = .ok (.if_icmp .eq 5, 3) := by decide +kernel
theorem dL_law_1145 : decode cL_law 1145 = .ok (.iconst 0, 1) := by decide +kernel
theorem dL_law_1146 : decode cL_law 1146 = .ok (.ireturn, 1) := by decide +kernel
theorem dL_law_1147 : decode cL_law 1147 = .ok (.iload 5, 2) := by decide +kernel
theorem dL_law_1149 : decode cL_law 1149 = .ok (.ifCond .ne 15, 3) := by decide +kernel
theorem dL_law_1152 : decode cL_law 1152 = .ok (.aload_n 3, 1) := by decide +kernel
theorem dL_law_1153 : decode cL_law 1153 = .ok (.iconst 0, 1) := by decide +kernel
theorem dL_law_1154 : decode cL_law 1154 = .ok (.laload, 1) := by decide +kernel
theorem dL_law_1155 : decode cL_law 1155 = .ok (.iload 6, 2) := by decide +kernel
theorem dL_law_1157 : decode cL_law 1157 = .ok (.i2l, 1) := by decide +kernel
theorem dL_law_1158 : decode cL_law 1158 = .ok (.lcmp, 1) := by decide +kernel
theorem dL_law_1159 : decode cL_law 1159 = .ok (.ifCond .eq 5, 3) := by decide +kernel
theorem dL_law_1162 : decode cL_law 1162 = .ok (.iconst 0, 1) := by decide +kernel
theorem dL_law_1163 : decode cL_law 1163 = .ok (.ireturn, 1) := by decide +kernel
theorem dL_law_1164 : decode cL_law 1164 = .ok (.goto 1396, 3) := by decide +kernel
theorem dL_law_1167 : decode cL_law 1167 = .ok (.aload_n 1, 1) := by decide +kernel
theorem dL_law_1168 : decode cL_law 1168 = .ok (.invokevirtual 200, 3) := by decide +kernel
theorem dL_law_1171 : decode cL_law 1171 = .ok (.aload_n 2, 1) := by decide +kernel
theorem dL_law_1172 : decode cL_law 1172 = .ok (.invokevirtual 203, 3) := by decide +kernel
theorem dL_law_1175 : decode cL_law 1175 = .ok (.if_icmp .eq 1385, 3) := by decide +kernel
theorem dL_law_1178 : decode cL_law 1178 = .ok (.iconst 0, 1) := by decide +kernel
theorem dL_law_1179 : decode cL_law 1179 = .ok (.ireturn, 1) := by decide +kernel
theorem dL_law_1180 : decode cL_law 1180 = .ok (.aload_n 1, 1) := by decide +kernel
theorem dL_law_1181 : decode cL_law 1181 = .ok (.aload_n 0, 1) := by decide +kernel
theorem dL_law_1182 : decode cL_law 1182 = .ok (.iload 4, 2) := by decide +kernel
theorem dL_law_1184 : decode cL_law 1184 = .ok (.iconst 1, 1) := by decide +kernel
theorem dL_law_1185 : decode cL_law 1185 = .ok (.iadd, 1) := by decide +kernel
theorem dL_law_1186 : decode cL_law 1186 = .ok (.iaload, 1) := by decide +kernel
theorem dL_law_1187 : decode cL_law 1187 = .ok (.aload_n 0, 1) := by decide +kernel
theorem dL_law_1188 : decode cL_law 1188 = .ok (.iload 4, 2) := by decide +kernel
theorem dL_law_1190 : decode cL_law 1190 = .ok (.iconst 2, 1) := by decide +kernel
theorem dL_law_1191 : decode cL_law 1191 = .ok (.iadd, 1) := by decide +kernel
theorem dL_law_1192 : decode cL_law 1192 = .ok (.iaload, 1) := by decide +kernel
theorem dL_law_1193 : decode cL_law 1193 = .ok (.aload_n 3, 1) := by decide +kernel
theorem dL_law_1194 : decode cL_law 1194 = .ok (.invokestatic 204, 3) := by decide +kernel
theorem dL_law_1197 : decode cL_law 1197 = .ok (.istore 5, 2) := by decide +kernel
theorem dL_law_1199 : decode cL_law 1199 = .ok (.aload_n 2, 1) := by decide +kernel
theorem dL_law_1200 : decode cL_law 1200 = .ok (.aload_n 0, 1) := by decide +kernel
theorem dL_law_1201 : decode cL_law 1201 = .ok (.iload 4, 2) := by decide +kernel
theorem dL_law_1203 : decode cL_law 1203 = .ok (.iconst 1, 1) := by decide +kernel
theorem dL_law_1204 : decode cL_law 1204 = .ok (.iadd, 1) := by decide +kernel
theorem dL_law_1205 : decode cL_law 1205 = .ok (.iaload, 1) := by decide +kernel
theorem dL_law_1206 : decode cL_law 1206 = .ok (.aload_n 0, 1) := by decide +kernel
theorem dL_law_1207 : decode cL_law 1207 = .ok (.iload 4, 2) := by decide +kernel
theorem dL_law_1209 : decode cL_law 1209 = .ok (.iconst 2, 1) := by decide +kernel
theorem dL_law_1210 : decode cL_law 1210 = .ok (.iadd, 1) := by decide +kernel
theorem dL_law_1211 : decode cL_law 1211 = .ok (.iaload, 1) := by decide +kernel
theorem dL_law_1212 : decode cL_law 1212 = .ok (.invokevirtual 206, 3) := by decide +kernel
theorem dL_law_1215 : decode cL_law 1215 = .ok (.istore 6, 2) := by decide +kernel
theorem dL_law_1217 : decode cL_law 1217 = .ok (.aload_n 2, 1) := by decide +kernel
theorem dL_law_1218 : decode cL_law 1218 = .ok (.invokevirtual 130, 3) := by decide +kernel
theorem dL_law_1221 : decode cL_law 1221 = .ok (.iload 5, 2) := by decide +kernel
theorem dL_law_1223 : decode cL_law 1223 = .ok (.if_icmp .eq 5, 3) := by decide +kernel
theorem dL_law_1226 : decode cL_law 1226 = .ok (.iconst 0, 1) := by decide +kernel
theorem dL_law_1227 : decode cL_law 1227 = .ok (.ireturn, 1) := by decide +kernel
theorem dL_law_1228 : decode cL_law 1228 = .ok (.iload 5, 2) := by decide +kernel
theorem dL_law_1230 : decode cL_law 1230 = .ok (.ifCond .ne 15, 3) := by decide +kernel
theorem dL_law_1233 : decode cL_law 1233 = .ok (.aload_n 3, 1) := by decide +kernel
theorem dL_law_1234 : decode cL_law 1234 = .ok (.iconst 0, 1) := by decide +kernel
theorem dL_law_1235 : decode cL_law 1235 = .ok (.laload, 1) := by decide +kernel
theorem dL_law_1236 : decode cL_law 1236 = .ok (.iload 6, 2) := by decide +kernel
theorem dL_law_1238 : decode cL_law 1238 = .ok (.i2l, 1) := by decide +kernel
theorem dL_law_1239 : decode cL_law 1239 = .ok (.lcmp, 1) := by decide +kernel
theorem dL_law_1240 : decode cL_law 1240 = .ok (.ifCond .eq 5, 3) := by decide +kernel
theorem dL_law_1243 : decode cL_law 1243 = .ok (.iconst 0, 1) := by decide +kernel
theorem dL_law_1244 : decode cL_law 1244 = .ok (.ireturn, 1) := by decide +kernel
theorem dL_law_1245 : decode cL_law 1245 = .ok (.goto 1315, 3) := by decide +kernel
theorem dL_law_1248 : decode cL_law 1248 = .ok (.aload_n 1, 1) := by decide +kernel
theorem dL_law_1249 : decode cL_law 1249 = .ok (.invokevirtual 207, 3) := by decide +kernel
theorem dL_law_1252 : decode cL_law 1252 = .ok (.aload_n 2, 1) := by decide +kernel
theorem dL_law_1253 : decode cL_law 1253 = .ok (.invokevirtual 210, 3) := by decide +kernel
theorem dL_law_1256 : decode cL_law 1256 = .ok (.if_icmp .eq 1304, 3) := by decide +kernel
theorem dL_law_1259 : decode cL_law 1259 = .ok (.iconst 0, 1) := by decide +kernel
theorem dL_law_1260 : decode cL_law 1260 = .ok (.ireturn, 1) := by decide +kernel
theorem dL_law_1261 : decode cL_law 1261 = .ok (.aload_n 1, 1) := by decide +kernel
theorem dL_law_1262 : decode cL_law 1262 = .ok (.invokevirtual 211, 3) := by decide +kernel
theorem dL_law_1265 : decode cL_law 1265 = .ok (.aload_n 2, 1) := by decide +kernel
theorem dL_law_1266 : decode cL_law 1266 = .ok (.invokevirtual 214, 3) := by decide +kernel
theorem dL_law_1269 : decode cL_law 1269 = .ok (.if_icmp .eq 1291, 3) := by decide +kernel
theorem dL_law_1272 : decode cL_law 1272 = .ok (.iconst 0, 1) := by decide +kernel
theorem dL_law_1273 : decode cL_law 1273 = .ok (.ireturn, 1) := by decide +kernel
theorem dL_law_1274 : decode cL_law 1274 = .ok (.aload_n 1, 1) := by decide +kernel
theorem dL_law_1275 : decode cL_law 1275 = .ok (.aload_n 0, 1) := by decide +kernel
theorem dL_law_1276 : decode cL_law 1276 = .ok (.iload 4, 2) := by decide +kernel
theorem dL_law_1278 : decode cL_law 1278 = .ok (.iconst 1, 1) := by decide +kernel
theorem dL_law_1279 : decode cL_law 1279 = .ok (.iadd, 1) := by decide +kernel
theorem dL_law_1280 : decode cL_law 1280 = .ok (.iaload, 1) := by decide +kernel
theorem dL_law_1281 : decode cL_law 1281 = .ok (.aload_n 3, 1) := by decide +kernel
theorem dL_law_1282 : decode cL_law 1282 = .ok (.invokestatic 215, 3) := by decide +kernel
theorem dL_law_1285 : decode cL_law 1285 = .ok (.istore 5, 2) := by decide +kernel
theorem dL_law_1287 : decode cL_law 1287 = .ok (.aload_n 2, 1) := by decide +kernel
theorem dL_law_1288 : decode cL_law 1288 = .ok (.aload_n 0, 1) := by decide +kernel
theorem dL_law_1289 : decode cL_law 1289 = .ok (.iload 4, 2) := by decide +kernel
theorem dL_law_1291 : decode cL_law 1291 = .ok (.iconst 1, 1) := by decide +kernel
theorem dL_law_1292 : decode cL_law 1292 = .ok (.iadd, 1) := by decide +kernel
theorem dL_law_1293 : decode cL_law 1293 = .ok (.iaload, 1) := by decide +kernel
theorem dL_law_1294 : decode cL_law 1294 = .ok (.invokevirtual 217, 3) := by decide +kernel
theorem dL_law_1297 : decode cL_law 1297 = .ok (.istore 6, 2) := by decide +kernel
theorem dL_law_1299 : decode cL_law 1299 = .ok (.aload_n 2, 1) := by decide +kernel
theorem dL_law_1300 : decode cL_law 1300 = .ok (.invokevirtual 130, 3) := by decide +kernel
theorem dL_law_1303 : decode cL_law 1303 = .ok (.iload 5, 2) := by decide +kernel
theorem dL_law_1305 : decode cL_law 1305 = .ok (.if_icmp .eq 5, 3) := by decide +kernel
theorem dL_law_1308 : decode cL_law 1308 = .ok (.iconst 0, 1) := by decide +kernel
theorem dL_law_1309 : decode cL_law 1309 = .ok (.ireturn, 1) := by decide +kernel
theorem dL_law_1310 : decode cL_law 1310 = .ok (.iload 5, 2) := by decide +kernel
theorem dL_law_1312 : decode cL_law 1312 = .ok (.ifCond .ne 15, 3) := by decide +kernel
theorem dL_law_1315 : decode cL_law 1315 = .ok (.aload_n 3, 1) := by decide +kernel
theorem dL_law_1316 : decode cL_law 1316 = .ok (.iconst 0, 1) := by decide +kernel
theorem dL_law_1317 : decode cL_law 1317 = .ok (.laload, 1) := by decide +kernel
theorem dL_law_1318 : decode cL_law 1318 = .ok (.iload 6, 2) := by decide +kernel
theorem dL_law_1320 : decode cL_law 1320 = .ok (.i2l, 1) := by decide +kernel
theorem dL_law_1321 : decode cL_law 1321 = .ok (.lcmp, 1) := by decide +kernel
theorem dL_law_1322 : decode cL_law 1322 = .ok (.ifCond .eq 5, 3) := by decide +kernel
theorem dL_law_1325 : decode cL_law 1325 = .ok (.iconst 0, 1) := by decide +kernel
theorem dL_law_1326 : decode cL_law 1326 = .ok (.ireturn, 1) := by decide +kernel
theorem dL_law_1327 : decode cL_law 1327 = .ok (.goto 1233, 3) := by decide +kernel
theorem dL_law_1330 : decode cL_law 1330 = .ok (.aload_n 1, 1) := by decide +kernel
theorem dL_law_1331 : decode cL_law 1331 = .ok (.invokevirtual 218, 3) := by decide +kernel
theorem dL_law_1334 : decode cL_law 1334 = .ok (.aload_n 2, 1) := by decide +kernel
theorem dL_law_1335 : decode cL_law 1335 = .ok (.invokevirtual 221, 3) := by decide +kernel
theorem dL_law_1338 : decode cL_law 1338 = .ok (.if_icmp .eq 1222, 3) := by decide +kernel
theorem dL_law_1341 : decode cL_law 1341 = .ok (.iconst 0, 1) := by decide +kernel
theorem dL_law_1342 : decode cL_law 1342 = .ok (.ireturn, 1) := by decide +kernel
theorem dL_law_1343 : decode cL_law 1343 = .ok (.aload_n 1, 1) := by decide +kernel
theorem dL_law_1344 : decode cL_law 1344 = .ok (.invokevirtual 222, 3) := by decide +kernel
theorem dL_law_1347 : decode cL_law 1347 = .ok (.aload_n 2, 1) := by decide +kernel
theorem dL_law_1348 : decode cL_law 1348 = .ok (.invokevirtual 225, 3) := by decide +kernel
theorem dL_law_1351 : decode cL_law 1351 = .ok (.if_icmp .eq 1209, 3) := by decide +kernel
theorem dL_law_1354 : decode cL_law 1354 = .ok (.iconst 0, 1) := by decide +kernel
theorem dL_law_1355 : decode cL_law 1355 = .ok (.ireturn, 1) := by decide +kernel
theorem dL_law_1356 : decode cL_law 1356 = .ok (.aload_n 1, 1) := by decide +kernel
theorem dL_law_1357 : decode cL_law 1357 = .ok (.aload_n 0, 1) := by decide +kernel
theorem dL_law_1358 : decode cL_law 1358 = .ok (.iload 4, 2) := by decide +kernel
theorem dL_law_1360 : decode cL_law 1360 = .ok (.iconst 1, 1) := by decide +kernel
theorem dL_law_1361 : decode cL_law 1361 = .ok (.iadd, 1) := by decide +kernel
theorem dL_law_1362 : decode cL_law 1362 = .ok (.iaload, 1) := by decide +kernel
theorem dL_law_1363 : decode cL_law 1363 = .ok (.aload_n 3, 1) := by decide +kernel
theorem dL_law_1364 : decode cL_law 1364 = .ok (.invokestatic 226, 3) := by decide +kernel
theorem dL_law_1367 : decode cL_law 1367 = .ok (.istore 5, 2) := by decide +kernel
theorem dL_law_1369 : decode cL_law 1369 = .ok (.aload_n 2, 1) := by decide +kernel
theorem dL_law_1370 : decode cL_law 1370 = .ok (.aload_n 0, 1) := by decide +kernel
theorem dL_law_1371 : decode cL_law 1371 = .ok (.iload 4, 2) := by decide +kernel
theorem dL_law_1373 : decode cL_law 1373 = .ok (.iconst 1, 1) := by decide +kernel
theorem dL_law_1374 : decode cL_law 1374 = .ok (.iadd, 1) := by decide +kernel
theorem dL_law_1375 : decode cL_law 1375 = .ok (.iaload, 1) := by decide +kernel
theorem dL_law_1376 : decode cL_law 1376 = .ok (.invokevirtual 228, 3) := by decide +kernel
theorem dL_law_1379 : decode cL_law 1379 = .ok (.istore 6, 2) := by decide +kernel
theorem dL_law_1381 : decode cL_law 1381 = .ok (.aload_n 2, 1) := by decide +kernel
theorem dL_law_1382 : decode cL_law 1382 = .ok (.invokevirtual 130, 3) := by decide +kernel
theorem dL_law_1385 : decode cL_law 1385 = .ok (.iload 5, 2) := by decide +kernel
theorem dL_law_1387 : decode cL_law 1387 = .ok (.if_icmp .eq 5, 3) := by decide +kernel
theorem dL_law_1390 : decode cL_law 1390 = .ok (.iconst 0, 1) := by decide +kernel
theorem dL_law_1391 : decode cL_law 1391 = .ok (.ireturn, 1) := by decide +kernel
theorem dL_law_1392 : decode cL_law 1392 = .ok (.iload 5, 2) := by decide +kernel
theorem dL_law_1394 : decode cL_law 1394 = .ok (.ifCond .ne 15, 3) := by decide +kernel
theorem dL_law_1397 : decode cL_law 1397 = .ok (.aload_n 3, 1) := by decide +kernel
theorem dL_law_1398 : decode cL_law 1398 = .ok (.iconst 0, 1) := by decide +kernel
theorem dL_law_1399 : decode cL_law 1399 = .ok (.laload, 1) := by decide +kernel
theorem dL_law_1400 : decode cL_law 1400 = .ok (.iload 6, 2) := by decide +kernel
theorem dL_law_1402 : decode cL_law 1402 = .ok (.i2l, 1) := by decide +kernel
theorem dL_law_1403 : decode cL_law 1403 = .ok (.lcmp, 1) := by decide +kernel
theorem dL_law_1404 : decode cL_law 1404 = .ok (.ifCond .eq 5, 3) := by decide +kernel
theorem dL_law_1407 : decode cL_law 1407 = .ok (.iconst 0, 1) := by decide +kernel
theorem dL_law_1408 : decode cL_law 1408 = .ok (.ireturn, 1) := by decide +kernel
theorem dL_law_1409 : decode cL_law 1409 = .ok (.goto 1151, 3) := by decide +kernel
theorem dL_law_1412 : decode cL_law 1412 = .ok (.aload_n 1, 1) := by decide +kernel
theorem dL_law_1413 : decode cL_law 1413 = .ok (.aload_n 0, 1) := by decide +kernel
theorem dL_law_1414 : decode cL_law 1414 = .ok (.iload 4, 2) := by decide +kernel
theorem dL_law_1416 : decode cL_law 1416 = .ok (.iconst 1, 1) := by decide +kernel
theorem dL_law_1417 : decode cL_law 1417 = .ok (.iadd, 1) := by decide +kernel
theorem dL_law_1418 : decode cL_law 1418 = .ok (.iaload, 1) := by decide +kernel
theorem dL_law_1419 : decode cL_law 1419 = .ok (.aload_n 3, 1) := by decide +kernel
theorem dL_law_1420 : decode cL_law 1420 = .ok (.invokestatic 229, 3) := by decide +kernel
theorem dL_law_1423 : decode cL_law 1423 = .ok (.istore 5, 2) := by decide +kernel
theorem dL_law_1425 : decode cL_law 1425 = .ok (.aload_n 2, 1) := by decide +kernel
theorem dL_law_1426 : decode cL_law 1426 = .ok (.aload_n 0, 1) := by decide +kernel
theorem dL_law_1427 : decode cL_law 1427 = .ok (.iload 4, 2) := by decide +kernel
theorem dL_law_1429 : decode cL_law 1429 = .ok (.iconst 1, 1) := by decide +kernel
theorem dL_law_1430 : decode cL_law 1430 = .ok (.iadd, 1) := by decide +kernel
theorem dL_law_1431 : decode cL_law 1431 = .ok (.iaload, 1) := by decide +kernel
theorem dL_law_1432 : decode cL_law 1432 = .ok (.invokevirtual 231, 3) := by decide +kernel
theorem dL_law_1435 : decode cL_law 1435 = .ok (.istore 6, 2) := by decide +kernel
theorem dL_law_1437 : decode cL_law 1437 = .ok (.aload_n 2, 1) := by decide +kernel
theorem dL_law_1438 : decode cL_law 1438 = .ok (.invokevirtual 130, 3) := by decide +kernel
theorem dL_law_1441 : decode cL_law 1441 = .ok (.iload 5, 2) := by decide +kernel
theorem dL_law_1443 : decode cL_law 1443 = .ok (.if_icmp .eq 5, 3) := by decide +kernel
theorem dL_law_1446 : decode cL_law 1446 = .ok (.iconst 0, 1) := by decide +kernel
theorem dL_law_1447 : decode cL_law 1447 = .ok (.ireturn, 1) := by decide +kernel
theorem dL_law_1448 : decode cL_law 1448 = .ok (.iload 5, 2) := by decide +kernel
theorem dL_law_1450 : decode cL_law 1450 = .ok (.ifCond .ne 15, 3) := by decide +kernel
theorem dL_law_1453 : decode cL_law 1453 = .ok (.aload_n 3, 1) := by decide +kernel
theorem dL_law_1454 : decode cL_law 1454 = .ok (.iconst 0, 1) := by decide +kernel
theorem dL_law_1455 : decode cL_law 1455 = .ok (.laload, 1) := by decide +kernel
theorem dL_law_1456 : decode cL_law 1456 = .ok (.iload 6, 2) := by decide +kernel
theorem dL_law_1458 : decode cL_law 1458 = .ok (.i2l, 1) := by decide +kernel
theorem dL_law_1459 : decode cL_law 1459 = .ok (.lcmp, 1) := by decide +kernel
theorem dL_law_1460 : decode cL_law 1460 = .ok (.ifCond .eq 5, 3) := by decide +kernel
theorem dL_law_1463 : decode cL_law 1463 = .ok (.iconst 0, 1) := by decide +kernel
theorem dL_law_1464 : decode cL_law 1464 = .ok (.ireturn, 1) := by decide +kernel
theorem dL_law_1465 : decode cL_law 1465 = .ok (.goto 1095, 3) := by decide +kernel
theorem dL_law_1468 : decode cL_law 1468 = .ok (.aload_n 1, 1) := by decide +kernel
theorem dL_law_1469 : decode cL_law 1469 = .ok (.invokevirtual 232, 3) := by decide +kernel
theorem dL_law_1472 : decode cL_law 1472 = .ok (.aload_n 2, 1) := by decide +kernel
theorem dL_law_1473 : decode cL_law 1473 = .ok (.invokevirtual 235, 3) := by decide +kernel
theorem dL_law_1476 : decode cL_law 1476 = .ok (.if_icmp .eq 1084, 3) := by decide +kernel
theorem dL_law_1479 : decode cL_law 1479 = .ok (.iconst 0, 1) := by decide +kernel
theorem dL_law_1480 : decode cL_law 1480 = .ok (.ireturn, 1) := by decide +kernel
theorem dL_law_1481 : decode cL_law 1481 = .ok (.aload_n 1, 1) := by decide +kernel
theorem dL_law_1482 : decode cL_law 1482 = .ok (.invokevirtual 236, 3) := by decide +kernel
theorem dL_law_1485 : decode cL_law 1485 = .ok (.aload_n 2, 1) := by decide +kernel
theorem dL_law_1486 : decode cL_law 1486 = .ok (.invokevirtual 239, 3) := by decide +kernel
theorem dL_law_1489 : decode cL_law 1489 = .ok (.if_icmp .eq 1071, 3) := by decide +kernel
theorem dL_law_1492 : decode cL_law 1492 = .ok (.iconst 0, 1) := by decide +kernel
theorem dL_law_1493 : decode cL_law 1493 = .ok (.ireturn, 1) := by decide +kernel
theorem dL_law_1494 : decode cL_law 1494 = .ok (.aload_n 1, 1) := by decide +kernel
theorem dL_law_1495 : decode cL_law 1495 = .ok (.invokevirtual 240, 3) := by decide +kernel
theorem dL_law_1498 : decode cL_law 1498 = .ok (.f2d, 1) := by decide +kernel
theorem dL_law_1499 : decode cL_law 1499 = .ok (.dstore 5, 2) := by decide +kernel
theorem dL_law_1501 : decode cL_law 1501 = .ok (.aload_n 2, 1) := by decide +kernel
theorem dL_law_1502 : decode cL_law 1502 = .ok (.invokevirtual 244, 3) := by decide +kernel
theorem dL_law_1505 : decode cL_law 1505 = .ok (.f2d, 1) := by decide +kernel
theorem dL_law_1506 : decode cL_law 1506 = .ok (.dstore 7, 2) := by decide +kernel
theorem dL_law_1508 : decode cL_law 1508 = .ok (.dload 5, 2) := by decide +kernel
theorem dL_law_1510 : decode cL_law 1510 = .ok (.dload 7, 2) := by decide +kernel
theorem dL_law_1512 : decode cL_law 1512 = .ok (.dcmp .l, 1) := by decide +kernel
theorem dL_law_1513 : decode cL_law 1513 = .ok (.ifCond .eq 21, 3) := by decide +kernel
theorem dL_law_1516 : decode cL_law 1516 = .ok (.dload 5, 2) := by decide +kernel
theorem dL_law_1518 : decode cL_law 1518 = .ok (.dload 5, 2) := by decide +kernel
theorem dL_law_1520 : decode cL_law 1520 = .ok (.dcmp .l, 1) := by decide +kernel
theorem dL_law_1521 : decode cL_law 1521 = .ok (.ifCond .eq 11, 3) := by decide +kernel
theorem dL_law_1524 : decode cL_law 1524 = .ok (.dload 7, 2) := by decide +kernel
theorem dL_law_1526 : decode cL_law 1526 = .ok (.dload 7, 2) := by decide +kernel
theorem dL_law_1528 : decode cL_law 1528 = .ok (.dcmp .l, 1) := by decide +kernel
theorem dL_law_1529 : decode cL_law 1529 = .ok (.ifCond .ne 5, 3) := by decide +kernel
theorem dL_law_1532 : decode cL_law 1532 = .ok (.iconst 0, 1) := by decide +kernel
theorem dL_law_1533 : decode cL_law 1533 = .ok (.ireturn, 1) := by decide +kernel
theorem dL_law_1534 : decode cL_law 1534 = .ok (.goto 1026, 3) := by decide +kernel
theorem dL_law_1537 : decode cL_law 1537 = .ok (.aload_n 1, 1) := by decide +kernel
theorem dL_law_1538 : decode cL_law 1538 = .ok (.invokevirtual 245, 3) := by decide +kernel
theorem dL_law_1541 : decode cL_law 1541 = .ok (.dstore 5, 2) := by decide +kernel
theorem dL_law_1543 : decode cL_law 1543 = .ok (.aload_n 2, 1) := by decide +kernel
theorem dL_law_1544 : decode cL_law 1544 = .ok (.invokevirtual 249, 3) := by decide +kernel
theorem dL_law_1547 : decode cL_law 1547 = .ok (.dstore 7, 2) := by decide +kernel
theorem dL_law_1549 : decode cL_law 1549 = .ok (.dload 5, 2) := by decide +kernel
theorem dL_law_1551 : decode cL_law 1551 = .ok (.dload 7, 2) := by decide +kernel
theorem dL_law_1553 : decode cL_law 1553 = .ok (.dcmp .l, 1) := by decide +kernel
theorem dL_law_1554 : decode cL_law 1554 = .ok (.ifCond .eq 21, 3) := by decide +kernel
theorem dL_law_1557 : decode cL_law 1557 = .ok (.dload 5, 2) := by decide +kernel
theorem dL_law_1559 : decode cL_law 1559 = .ok (.dload 5, 2) := by decide +kernel
theorem dL_law_1561 : decode cL_law 1561 = .ok (.dcmp .l, 1) := by decide +kernel
theorem dL_law_1562 : decode cL_law 1562 = .ok (.ifCond .eq 11, 3) := by decide +kernel
theorem dL_law_1565 : decode cL_law 1565 = .ok (.dload 7, 2) := by decide +kernel
theorem dL_law_1567 : decode cL_law 1567 = .ok (.dload 7, 2) := by decide +kernel
theorem dL_law_1569 : decode cL_law 1569 = .ok (.dcmp .l, 1) := by decide +kernel
theorem dL_law_1570 : decode cL_law 1570 = .ok (.ifCond .ne 5, 3) := by decide +kernel
theorem dL_law_1573 : decode cL_law 1573 = .ok (.iconst 0, 1) := by decide +kernel
theorem dL_law_1574 : decode cL_law 1574 = .ok (.ireturn, 1) := by decide +kernel
theorem dL_law_1575 : decode cL_law 1575 = .ok (.goto 985, 3) := by decide +kernel
theorem dL_law_1578 : decode cL_law 1578 = .ok (.aload_n 1, 1) := by decide +kernel
theorem dL_law_1579 : decode cL_law 1579 = .ok (.invokevirtual 250, 3) := by decide +kernel
theorem dL_law_1582 : decode cL_law 1582 = .ok (.dstore 5, 2) := by decide +kernel
theorem dL_law_1584 : decode cL_law 1584 = .ok (.aload_n 2, 1) := by decide +kernel
theorem dL_law_1585 : decode cL_law 1585 = .ok (.invokevirtual 253, 3) := by decide +kernel
theorem dL_law_1588 : decode cL_law 1588 = .ok (.dstore 7, 2) := by decide +kernel
theorem dL_law_1590 : decode cL_law 1590 = .ok (.dload 5, 2) := by decide +kernel
theorem dL_law_1592 : decode cL_law 1592 = .ok (.dload 7, 2) := by decide +kernel
theorem dL_law_1594 : decode cL_law 1594 = .ok (.dcmp .l, 1) := by decide +kernel
theorem dL_law_1595 : decode cL_law 1595 = .ok (.ifCond .eq 21, 3) := by decide +kernel
theorem dL_law_1598 : decode cL_law 1598 = .ok (.dload 5, 2) := by decide +kernel
theorem dL_law_1600 : decode cL_law 1600 = .ok (.dload 5, 2) := by decide +kernel
theorem dL_law_1602 : decode cL_law 1602 = .ok (.dcmp .l, 1) := by decide +kernel
theorem dL_law_1603 : decode cL_law 1603 = .ok (.ifCond .eq 11, 3) := by decide +kernel
theorem dL_law_1606 : decode cL_law 1606 = .ok (.dload 7, 2) := by decide +kernel
theorem dL_law_1608 : decode cL_law 1608 = .ok (.dload 7, 2) := by decide +kernel
theorem dL_law_1610 : decode cL_law 1610 = .ok (.dcmp .l, 1) := by decide +kernel
theorem dL_law_1611 : decode cL_law 1611 = .ok (.ifCond .ne 5, 3) := by decide +kernel
theorem dL_law_1614 : decode cL_law 1614 = .ok (.iconst 0, 1) := by decide +kernel
theorem dL_law_1615 : decode cL_law 1615 = .ok (.ireturn, 1) := by decide +kernel
theorem dL_law_1616 : decode cL_law 1616 = .ok (.goto 944, 3) := by decide +kernel
theorem dL_law_1619 : decode cL_law 1619 = .ok (.aload_n 1, 1) := by decide +kernel
theorem dL_law_1620 : decode cL_law 1620 = .ok (.aload_n 0, 1) := by decide +kernel
theorem dL_law_1621 : decode cL_law 1621 = .ok (.iload 4, 2) := by decide +kernel
theorem dL_law_1623 : decode cL_law 1623 = .ok (.iconst 1, 1) := by decide +kernel
theorem dL_law_1624 : decode cL_law 1624 = .ok (.iadd, 1) := by decide +kernel
theorem dL_law_1625 : decode cL_law 1625 = .ok (.iaload, 1) := by decide +kernel
theorem dL_law_1626 : decode cL_law 1626 = .ok (.aload_n 3, 1) := by decide +kernel
theorem dL_law_1627 : decode cL_law 1627 = .ok (.invokestatic 254, 3) := by decide +kernel
theorem dL_law_1630 : decode cL_law 1630 = .ok (.istore 5, 2) := by decide +kernel
theorem dL_law_1632 : decode cL_law 1632 = .ok (.aload_n 2, 1) := by decide +kernel
theorem dL_law_1633 : decode cL_law 1633 = .ok (.aload_n 0, 1) := by decide +kernel
theorem dL_law_1634 : decode cL_law 1634 = .ok (.iload 4, 2) := by decide +kernel
theorem dL_law_1636 : decode cL_law 1636 = .ok (.iconst 1, 1) := by decide +kernel
theorem dL_law_1637 : decode cL_law 1637 = .ok (.iadd, 1) := by decide +kernel
theorem dL_law_1638 : decode cL_law 1638 = .ok (.iaload, 1) := by decide +kernel
theorem dL_law_1639 : decode cL_law 1639 = .ok (.invokevirtual 256, 3) := by decide +kernel
theorem dL_law_1642 : decode cL_law 1642 = .ok (.istore 6, 2) := by decide +kernel
theorem dL_law_1644 : decode cL_law 1644 = .ok (.aload_n 2, 1) := by decide +kernel
theorem dL_law_1645 : decode cL_law 1645 = .ok (.invokevirtual 130, 3) := by decide +kernel
theorem dL_law_1648 : decode cL_law 1648 = .ok (.iload 5, 2) := by decide +kernel
theorem dL_law_1650 : decode cL_law 1650 = .ok (.if_icmp .eq 5, 3) := by decide +kernel
theorem dL_law_1653 : decode cL_law 1653 = .ok (.iconst 0, 1) := by decide +kernel
theorem dL_law_1654 : decode cL_law 1654 = .ok (.ireturn, 1) := by decide +kernel
theorem dL_law_1655 : decode cL_law 1655 = .ok (.iload 5, 2) := by decide +kernel
theorem dL_law_1657 : decode cL_law 1657 = .ok (.ifCond .ne 15, 3) := by decide +kernel
theorem dL_law_1660 : decode cL_law 1660 = .ok (.aload_n 3, 1) := by decide +kernel
theorem dL_law_1661 : decode cL_law 1661 = .ok (.iconst 0, 1) := by decide +kernel
theorem dL_law_1662 : decode cL_law 1662 = .ok (.laload, 1) := by decide +kernel
theorem dL_law_1663 : decode cL_law 1663 = .ok (.iload 6, 2) := by decide +kernel
theorem dL_law_1665 : decode cL_law 1665 = .ok (.i2l, 1) := by decide +kernel
theorem dL_law_1666 : decode cL_law 1666 = .ok (.lcmp, 1) := by decide +kernel
theorem dL_law_1667 : decode cL_law 1667 = .ok (.ifCond .eq 5, 3) := by decide +kernel
theorem dL_law_1670 : decode cL_law 1670 = .ok (.iconst 0, 1) := by decide +kernel
theorem dL_law_1671 : decode cL_law 1671 = .ok (.ireturn, 1) := by decide +kernel
theorem dL_law_1672 : decode cL_law 1672 = .ok (.goto 888, 3) := by decide +kernel
theorem dL_law_1675 : decode cL_law 1675 = .ok (.aload_n 1, 1) := by decide +kernel
theorem dL_law_1676 : decode cL_law 1676 = .ok (.aload_n 0, 1) := by decide +kernel
theorem dL_law_1677 : decode cL_law 1677 = .ok (.iload 4, 2) := by decide +kernel
theorem dL_law_1679 : decode cL_law 1679 = .ok (.iconst 1, 1) := by decide +kernel
theorem dL_law_1680 : decode cL_law 1680 = .ok (.iadd, 1) := by decide +kernel
theorem dL_law_1681 : decode cL_law 1681 = .ok (.iaload, 1) := by decide +kernel
theorem dL_law_1682 : decode cL_law 1682 = .ok (.aload_n 3, 1) := by decide +kernel
theorem dL_law_1683 : decode cL_law 1683 = .ok (.invokestatic 257, 3) := by decide +kernel
theorem dL_law_1686 : decode cL_law 1686 = .ok (.istore 5, 2) := by decide +kernel
theorem dL_law_1688 : decode cL_law 1688 = .ok (.aload_n 2, 1) := by decide +kernel
theorem dL_law_1689 : decode cL_law 1689 = .ok (.aload_n 0, 1) := by decide +kernel
theorem dL_law_1690 : decode cL_law 1690 = .ok (.iload 4, 2) := by decide +kernel
theorem dL_law_1692 : decode cL_law 1692 = .ok (.iconst 1, 1) := by decide +kernel
theorem dL_law_1693 : decode cL_law 1693 = .ok (.iadd, 1) := by decide +kernel
theorem dL_law_1694 : decode cL_law 1694 = .ok (.iaload, 1) := by decide +kernel
theorem dL_law_1695 : decode cL_law 1695 = .ok (.invokevirtual 259, 3) := by decide +kernel
theorem dL_law_1698 : decode cL_law 1698 = .ok (.istore 6, 2) := by decide +kernel
theorem dL_law_1700 : decode cL_law 1700 = .ok (.aload_n 2, 1) := by decide +kernel
theorem dL_law_1701 : decode cL_law 1701 = .ok (.invokevirtual 130, 3) := by decide +kernel
theorem dL_law_1704 : decode cL_law 1704 = .ok (.iload 5, 2) := by decide +kernel
theorem dL_law_1706 : decode cL_law 1706 = .ok (.if_icmp .eq 5, 3) := by decide +kernel
theorem dL_law_1709 : decode cL_law 1709 = .ok (.iconst 0, 1) := by decide +kernel
theorem dL_law_1710 : decode cL_law 1710 = .ok (.ireturn, 1) := by decide +kernel
theorem dL_law_1711 : decode cL_law 1711 = .ok (.iload 5, 2) := by decide +kernel
theorem dL_law_1713 : decode cL_law 1713 = .ok (.ifCond .ne 15, 3) := by decide +kernel
theorem dL_law_1716 : decode cL_law 1716 = .ok (.aload_n 3, 1) := by decide +kernel
theorem dL_law_1717 : decode cL_law 1717 = .ok (.iconst 0, 1) := by decide +kernel
theorem dL_law_1718 : decode cL_law 1718 = .ok (.laload, 1) := by decide +kernel
theorem dL_law_1719 : decode cL_law 1719 = .ok (.iload 6, 2) := by decide +kernel
theorem dL_law_1721 : decode cL_law 1721 = .ok (.i2l, 1) := by decide +kernel
theorem dL_law_1722 : decode cL_law 1722 = .ok (.lcmp, 1) := by decide +kernel
theorem dL_law_1723 : decode cL_law 1723 = .ok (.ifCond .eq 5, 3) := by decide +kernel
theorem dL_law_1726 : decode cL_law 1726 = .ok (.iconst 0, 1) := by decide +kernel
theorem dL_law_1727 : decode cL_law 1727 = .ok (.ireturn, 1) := by decide +kernel
theorem dL_law_1728 : decode cL_law 1728 = .ok (.goto 832, 3) := by decide +kernel
theorem dL_law_1731 : decode cL_law 1731 = .ok (.aload_n 1, 1) := by decide +kernel
theorem dL_law_1732 : decode cL_law 1732 = .ok (.aload_n 0, 1) := by decide +kernel
theorem dL_law_1733 : decode cL_law 1733 = .ok (.iload 4, 2) := by decide +kernel
theorem dL_law_1735 : decode cL_law 1735 = .ok (.iconst 1, 1) := by decide +kernel
theorem dL_law_1736 : decode cL_law 1736 = .ok (.iadd, 1) := by decide +kernel
theorem dL_law_1737 : decode cL_law 1737 = .ok (.iaload, 1) := by decide +kernel
theorem dL_law_1738 : decode cL_law 1738 = .ok (.aload_n 0, 1) := by decide +kernel
theorem dL_law_1739 : decode cL_law 1739 = .ok (.iload 4, 2) := by decide +kernel
theorem dL_law_1741 : decode cL_law 1741 = .ok (.iconst 2, 1) := by decide +kernel
theorem dL_law_1742 : decode cL_law 1742 = .ok (.iadd, 1) := by decide +kernel
theorem dL_law_1743 : decode cL_law 1743 = .ok (.iaload, 1) := by decide +kernel
theorem dL_law_1744 : decode cL_law 1744 = .ok (.aload_n 3, 1) := by decide +kernel
theorem dL_law_1745 : decode cL_law 1745 = .ok (.invokestatic 260, 3) := by decide +kernel
theorem dL_law_1748 : decode cL_law 1748 = .ok (.istore 5, 2) := by decide +kernel
theorem dL_law_1750 : decode cL_law 1750 = .ok (.aload_n 2, 1) := by decide +kernel
theorem dL_law_1751 : decode cL_law 1751 = .ok (.aload_n 0, 1) := by decide +kernel
theorem dL_law_1752 : decode cL_law 1752 = .ok (.iload 4, 2) := by decide +kernel
theorem dL_law_1754 : decode cL_law 1754 = .ok (.iconst 1, 1) := by decide +kernel
theorem dL_law_1755 : decode cL_law 1755 = .ok (.iadd, 1) := by decide +kernel
theorem dL_law_1756 : decode cL_law 1756 = .ok (.iaload, 1) := by decide +kernel
theorem dL_law_1757 : decode cL_law 1757 = .ok (.aload_n 0, 1) := by decide +kernel
theorem dL_law_1758 : decode cL_law 1758 = .ok (.iload 4, 2) := by decide +kernel
theorem dL_law_1760 : decode cL_law 1760 = .ok (.iconst 2, 1) := by decide +kernel
theorem dL_law_1761 : decode cL_law 1761 = .ok (.iadd, 1) := by decide +kernel
theorem dL_law_1762 : decode cL_law 1762 = .ok (.iaload, 1) := by decide +kernel
theorem dL_law_1763 : decode cL_law 1763 = .ok (.invokevirtual 262, 3) := by decide +kernel
theorem dL_law_1766 : decode cL_law 1766 = .ok (.istore 6, 2) := by decide +kernel
theorem dL_law_1768 : decode cL_law 1768 = .ok (.aload_n 2, 1) := by decide +kernel
theorem dL_law_1769 : decode cL_law 1769 = .ok (.invokevirtual 130, 3) := by decide +kernel
theorem dL_law_1772 : decode cL_law 1772 = .ok (.iload 5, 2) := by decide +kernel
theorem dL_law_1774 : decode cL_law 1774 = .ok (.if_icmp .eq 5, 3) := by decide +kernel
theorem dL_law_1777 : decode cL_law 1777 = .ok (.iconst 0, 1) := by decide +kernel
theorem dL_law_1778 : decode cL_law 1778 = .ok (.ireturn, 1) := by decide +kernel
theorem dL_law_1779 : decode cL_law 1779 = .ok (.iload 5, 2) := by decide +kernel
theorem dL_law_1781 : decode cL_law 1781 = .ok (.ifCond .ne 15, 3) := by decide +kernel
theorem dL_law_1784 : decode cL_law 1784 = .ok (.aload_n 3, 1) := by decide +kernel
theorem dL_law_1785 : decode cL_law 1785 = .ok (.iconst 0, 1) := by decide +kernel
theorem dL_law_1786 : decode cL_law 1786 = .ok (.laload, 1) := by decide +kernel
theorem dL_law_1787 : decode cL_law 1787 = .ok (.iload 6, 2) := by decide +kernel
theorem dL_law_1789 : decode cL_law 1789 = .ok (.i2l, 1) := by decide +kernel
theorem dL_law_1790 : decode cL_law 1790 = .ok (.lcmp, 1) := by decide +kernel
theorem dL_law_1791 : decode cL_law 1791 = .ok (.ifCond .eq 5, 3) := by decide +kernel
theorem dL_law_1794 : decode cL_law 1794 = .ok (.iconst 0, 1) := by decide +kernel
theorem dL_law_1795 : decode cL_law 1795 = .ok (.ireturn, 1) := by decide +kernel
theorem dL_law_1796 : decode cL_law 1796 = .ok (.goto 764, 3) := by decide +kernel
theorem dL_law_1799 : decode cL_law 1799 = .ok (.aload_n 1, 1) := by decide +kernel
theorem dL_law_1800 : decode cL_law 1800 = .ok (.aload_n 0, 1) := by decide +kernel
theorem dL_law_1801 : decode cL_law 1801 = .ok (.iload 4, 2) := by decide +kernel
theorem dL_law_1803 : decode cL_law 1803 = .ok (.iconst 1, 1) := by decide +kernel
theorem dL_law_1804 : decode cL_law 1804 = .ok (.iadd, 1) := by decide +kernel
theorem dL_law_1805 : decode cL_law 1805 = .ok (.iaload, 1) := by decide +kernel
theorem dL_law_1806 : decode cL_law 1806 = .ok (.aload_n 0, 1) := by decide +kernel
theorem dL_law_1807 : decode cL_law 1807 = .ok (.iload 4, 2) := by decide +kernel
theorem dL_law_1809 : decode cL_law 1809 = .ok (.iconst 2, 1) := by decide +kernel
theorem dL_law_1810 : decode cL_law 1810 = .ok (.iadd, 1) := by decide +kernel
theorem dL_law_1811 : decode cL_law 1811 = .ok (.iaload, 1) := by decide +kernel
theorem dL_law_1812 : decode cL_law 1812 = .ok (.aload_n 0, 1) := by decide +kernel
theorem dL_law_1813 : decode cL_law 1813 = .ok (.iload 4, 2) := by decide +kernel
theorem dL_law_1815 : decode cL_law 1815 = .ok (.iconst 3, 1) := by decide +kernel
theorem dL_law_1816 : decode cL_law 1816 = .ok (.iadd, 1) := by decide +kernel
theorem dL_law_1817 : decode cL_law 1817 = .ok (.iaload, 1) := by decide +kernel
theorem dL_law_1818 : decode cL_law 1818 = .ok (.ifCond .eq 7, 3) := by decide +kernel
theorem dL_law_1821 : decode cL_law 1821 = .ok (.iconst 1, 1) := by decide +kernel
theorem dL_law_1822 : decode cL_law 1822 = .ok (.goto 4, 3) := by decide +kernel
theorem dL_law_1825 : decode cL_law 1825 = .ok (.iconst 0, 1) := by decide +kernel
theorem dL_law_1826 : decode cL_law 1826 = .ok (.aload_n 3, 1) := by decide +kernel
theorem dL_law_1827 : decode cL_law 1827 = .ok (.invokestatic 263, 3) := by decide +kernel
theorem dL_law_1830 : decode cL_law 1830 = .ok (.istore 5, 2) := by decide +kernel
theorem dL_law_1832 : decode cL_law 1832 = .ok (.aload_n 2, 1) := by decide +kernel
theorem dL_law_1833 : decode cL_law 1833 = .ok (.aload_n 0, 1) := by decide +kernel
theorem dL_law_1834 : decode cL_law 1834 = .ok (.iload 4, 2) := by decide +kernel
theorem dL_law_1836 : decode cL_law 1836 = .ok (.iconst 1, 1) := by decide +kernel
theorem dL_law_1837 : decode cL_law 1837 = .ok (.iadd, 1) := by decide +kernel
theorem dL_law_1838 : decode cL_law 1838 = .ok (.iaload, 1) := by decide +kernel
theorem dL_law_1839 : decode cL_law 1839 = .ok (.aload_n 0, 1) := by decide +kernel
theorem dL_law_1840 : decode cL_law 1840 = .ok (.iload 4, 2) := by decide +kernel
theorem dL_law_1842 : decode cL_law 1842 = .ok (.iconst 2, 1) := by decide +kernel
theorem dL_law_1843 : decode cL_law 1843 = .ok (.iadd, 1) := by decide +kernel
theorem dL_law_1844 : decode cL_law 1844 = .ok (.iaload, 1) := by decide +kernel
theorem dL_law_1845 : decode cL_law 1845 = .ok (.aload_n 0, 1) := by decide +kernel
theorem dL_law_1846 : decode cL_law 1846 = .ok (.iload 4, 2) := by decide +kernel
theorem dL_law_1848 : decode cL_law 1848 = .ok (.iconst 3, 1) := by decide +kernel
theorem dL_law_1849 : decode cL_law 1849 = .ok (.iadd, 1) := by decide +kernel
theorem dL_law_1850 : decode cL_law 1850 = .ok (.iaload, 1) := by decide +kernel
theorem dL_law_1851 : decode cL_law 1851 = .ok (.ifCond .eq 7, 3) := by decide +kernel
theorem dL_law_1854 : decode cL_law 1854 = .ok (.iconst 1, 1) := by decide +kernel
theorem dL_law_1855 : decode cL_law 1855 = .ok (.goto 4, 3) := by decide +kernel
theorem dL_law_1858 : decode cL_law 1858 = .ok (.iconst 0, 1) := by decide +kernel
theorem dL_law_1859 : decode cL_law 1859 = .ok (.invokevirtual 266, 3) := by decide +kernel
theorem dL_law_1862 : decode cL_law 1862 = .ok (.istore 6, 2) := by decide +kernel
theorem dL_law_1864 : decode cL_law 1864 = .ok (.aload_n 2, 1) := by decide +kernel
theorem dL_law_1865 : decode cL_law 1865 = .ok (.invokevirtual 130, 3) := by decide +kernel
theorem dL_law_1868 : decode cL_law 1868 = .ok (.iload 5, 2) := by decide +kernel
theorem dL_law_1870 : decode cL_law 1870 = .ok (.if_icmp .eq 5, 3) := by decide +kernel
theorem dL_law_1873 : decode cL_law 1873 = .ok (.iconst 0, 1) := by decide +kernel
theorem dL_law_1874 : decode cL_law 1874 = .ok (.ireturn, 1) := by decide +kernel
theorem dL_law_1875 : decode cL_law 1875 = .ok (.iload 5, 2) := by decide +kernel
theorem dL_law_1877 : decode cL_law 1877 = .ok (.ifCond .ne 22, 3) := by decide +kernel
theorem dL_law_1880 : decode cL_law 1880 = .ok (.aload_n 3, 1) := by decide +kernel
theorem dL_law_1881 : decode cL_law 1881 = .ok (.iconst 0, 1) := by decide +kernel
theorem dL_law_1882 : decode cL_law 1882 = .ok (.laload, 1) := by decide +kernel
theorem dL_law_1883 : decode cL_law 1883 = .ok (.iload 6, 2) := by decide +kernel
theorem dL_law_1885 : decode cL_law 1885 = .ok (.ifCond .eq 7, 3) := by decide +kernel
theorem dL_law_1888 : decode cL_law 1888 = .ok (.lconst 1, 1) := by decide +kernel
theorem dL_law_1889 : decode cL_law 1889 = .ok (.goto 4, 3) := by decide +kernel
theorem dL_law_1892 : decode cL_law 1892 = .ok (.lconst 0, 1) := by decide +kernel
theorem dL_law_1893 : decode cL_law 1893 = .ok (.lcmp, 1) := by decide +kernel
theorem dL_law_1894 : decode cL_law 1894 = .ok (.ifCond .eq 5, 3) := by decide +kernel
theorem dL_law_1897 : decode cL_law 1897 = .ok (.iconst 0, 1) := by decide +kernel
theorem dL_law_1898 : decode cL_law 1898 = .ok (.ireturn, 1) := by decide +kernel
theorem dL_law_1899 : decode cL_law 1899 = .ok (.goto 661, 3) := by decide +kernel
theorem dL_law_1902 : decode cL_law 1902 = .ok (.aload_n 1, 1) := by decide +kernel
theorem dL_law_1903 : decode cL_law 1903 = .ok (.aload_n 0, 1) := by decide +kernel
theorem dL_law_1904 : decode cL_law 1904 = .ok (.iload 4, 2) := by decide +kernel
theorem dL_law_1906 : decode cL_law 1906 = .ok (.iconst 1, 1) := by decide +kernel
theorem dL_law_1907 : decode cL_law 1907 = .ok (.iadd, 1) := by decide +kernel
theorem dL_law_1908 : decode cL_law 1908 = .ok (.iaload, 1) := by decide +kernel
theorem dL_law_1909 : decode cL_law 1909 = .ok (.aload_n 3, 1) := by decide +kernel
theorem dL_law_1910 : decode cL_law 1910 = .ok (.invokestatic 267, 3) := by decide +kernel
theorem dL_law_1913 : decode cL_law 1913 = .ok (.istore 5, 2) := by decide +kernel
theorem dL_law_1915 : decode cL_law 1915 = .ok (.aload_n 2, 1) := by decide +kernel
theorem dL_law_1916 : decode cL_law 1916 = .ok (.aload_n 0, 1) := by decide +kernel
theorem dL_law_1917 : decode cL_law 1917 = .ok (.iload 4, 2) := by decide +kernel
theorem dL_law_1919 : decode cL_law 1919 = .ok (.iconst 1, 1) := by decide +kernel
theorem dL_law_1920 : decode cL_law 1920 = .ok (.iadd, 1) := by decide +kernel
theorem dL_law_1921 : decode cL_law 1921 = .ok (.iaload, 1) := by decide +kernel
theorem dL_law_1922 : decode cL_law 1922 = .ok (.invokevirtual 269, 3) := by decide +kernel
theorem dL_law_1925 : decode cL_law 1925 = .ok (.istore 6, 2) := by decide +kernel
theorem dL_law_1927 : decode cL_law 1927 = .ok (.aload_n 2, 1) := by decide +kernel
theorem dL_law_1928 : decode cL_law 1928 = .ok (.invokevirtual 130, 3) := by decide +kernel
theorem dL_law_1931 : decode cL_law 1931 = .ok (.iload 5, 2) := by decide +kernel
theorem dL_law_1933 : decode cL_law 1933 = .ok (.if_icmp .eq 5, 3) := by decide +kernel
theorem dL_law_1936 : decode cL_law 1936 = .ok (.iconst 0, 1) := by decide +kernel
theorem dL_law_1937 : decode cL_law 1937 = .ok (.ireturn, 1) := by decide +kernel
theorem dL_law_1938 : decode cL_law 1938 = .ok (.iload 5, 2) := by decide +kernel
theorem dL_law_1940 : decode cL_law 1940 = .ok (.ifCond .ne 15, 3) := by decide +kernel
theorem dL_law_1943 : decode cL_law 1943 = .ok (.aload_n 3, 1) := by decide +kernel
theorem dL_law_1944 : decode cL_law 1944 = .ok (.iconst 0, 1) := by decide +kernel
theorem dL_law_1945 : decode cL_law 1945 = .ok (.laload, 1) := by decide +kernel
theorem dL_law_1946 : decode cL_law 1946 = .ok (.iload 6, 2) := by decide +kernel
theorem dL_law_1948 : decode cL_law 1948 = .ok (.i2l, 1) := by decide +kernel
theorem dL_law_1949 : decode cL_law 1949 = .ok (.lcmp, 1) := by decide +kernel
theorem dL_law_1950 : decode cL_law 1950 = .ok (.ifCond .eq 5, 3) := by decide +kernel
theorem dL_law_1953 : decode cL_law 1953 = .ok (.iconst 0, 1) := by decide +kernel
theorem dL_law_1954 : decode cL_law 1954 = .ok (.ireturn, 1) := by decide +kernel
theorem dL_law_1955 : decode cL_law 1955 = .ok (.goto 605, 3) := by decide +kernel
theorem dL_law_1958 : decode cL_law 1958 = .ok (.aload_n 1, 1) := by decide +kernel
theorem dL_law_1959 : decode cL_law 1959 = .ok (.aload_n 3, 1) := by decide +kernel
theorem dL_law_1960 : decode cL_law 1960 = .ok (.invokestatic 270, 3) := by decide +kernel
theorem dL_law_1963 : decode cL_law 1963 = .ok (.istore 5, 2) := by decide +kernel
theorem dL_law_1965 : decode cL_law 1965 = .ok (.aload_n 2, 1) := by decide +kernel
theorem dL_law_1966 : decode cL_law 1966 = .ok (.invokevirtual 273, 3) := by decide +kernel
theorem dL_law_1969 : decode cL_law 1969 = .ok (.istore 6, 2) := by decide +kernel
theorem dL_law_1971 : decode cL_law 1971 = .ok (.aload_n 2, 1) := by decide +kernel
theorem dL_law_1972 : decode cL_law 1972 = .ok (.invokevirtual 130, 3) := by decide +kernel
theorem dL_law_1975 : decode cL_law 1975 = .ok (.iload 5, 2) := by decide +kernel
theorem dL_law_1977 : decode cL_law 1977 = .ok (.if_icmp .eq 5, 3) := by decide +kernel
theorem dL_law_1980 : decode cL_law 1980 = .ok (.iconst 0, 1) := by decide +kernel
theorem dL_law_1981 : decode cL_law 1981 = .ok (.ireturn, 1) := by decide +kernel
theorem dL_law_1982 : decode cL_law 1982 = .ok (.iload 5, 2) := by decide +kernel
theorem dL_law_1984 : decode cL_law 1984 = .ok (.ifCond .ne 15, 3) := by decide +kernel
theorem dL_law_1987 : decode cL_law 1987 = .ok (.aload_n 3, 1) := by decide +kernel
theorem dL_law_1988 : decode cL_law 1988 = .ok (.iconst 0, 1) := by decide +kernel
theorem dL_law_1989 : decode cL_law 1989 = .ok (.laload, 1) := by decide +kernel
theorem dL_law_1990 : decode cL_law 1990 = .ok (.iload 6, 2) := by decide +kernel
theorem dL_law_1992 : decode cL_law 1992 = .ok (.i2l, 1) := by decide +kernel
theorem dL_law_1993 : decode cL_law 1993 = .ok (.lcmp, 1) := by decide +kernel
theorem dL_law_1994 : decode cL_law 1994 = .ok (.ifCond .eq 5, 3) := by decide +kernel
theorem dL_law_1997 : decode cL_law 1997 = .ok (.iconst 0, 1) := by decide +kernel
theorem dL_law_1998 : decode cL_law 1998 = .ok (.ireturn, 1) := by decide +kernel
theorem dL_law_1999 : decode cL_law 1999 = .ok (.goto 561, 3) := by decide +kernel
theorem dL_law_2002 : decode cL_law 2002 = .ok (.aload_n 1, 1) := by decide +kernel
theorem dL_law_2003 : decode cL_law 2003 = .ok (.aload_n 0, 1) := by decide +kernel
theorem dL_law_2004 : decode cL_law 2004 = .ok (.iload 4, 2) := by decide +kernel
theorem dL_law_2006 : decode cL_law 2006 = .ok (.iconst 1, 1) := by decide +kernel
theorem dL_law_2007 : decode cL_law 2007 = .ok (.iadd, 1) := by decide +kernel
theorem dL_law_2008 : decode cL_law 2008 = .ok (.iaload, 1) := by decide +kernel
theorem dL_law_2009 : decode cL_law 2009 = .ok (.aload_n 0, 1) := by decide +kernel
theorem dL_law_2010 : decode cL_law 2010 = .ok (.iload 4, 2) := by decide +kernel
theorem dL_law_2012 : decode cL_law 2012 = .ok (.iconst 2, 1) := by decide +kernel
theorem dL_law_2013 : decode cL_law 2013 = .ok (.iadd, 1) := by decide +kernel
theorem dL_law_2014 : decode cL_law 2014 = .ok (.iaload, 1) := by decide +kernel
theorem dL_law_2015 : decode cL_law 2015 = .ok (.ifCond .eq 7, 3) := by decide +kernel
theorem dL_law_2018 : decode cL_law 2018 = .ok (.iconst 1, 1) := by decide +kernel
theorem dL_law_2019 : decode cL_law 2019 = .ok (.goto 4, 3) := by decide +kernel
theorem dL_law_2022 : decode cL_law 2022 = .ok (.iconst 0, 1) := by decide +kernel
theorem dL_law_2023 : decode cL_law 2023 = .ok (.aload_n 3, 1) := by decide +kernel
theorem dL_law_2024 : decode cL_law 2024 = .ok (.invokestatic 274, 3) := by decide +kernel
theorem dL_law_2027 : decode cL_law 2027 = .ok (.istore 5, 2) := by decide +kernel
theorem dL_law_2029 : decode cL_law 2029 = .ok (.aload_n 2, 1) := by decide +kernel
theorem dL_law_2030 : decode cL_law 2030 = .ok (.aload_n 0, 1) := by decide +kernel
theorem dL_law_2031 : decode cL_law 2031 = .ok (.iload 4, 2) := by decide +kernel
theorem dL_law_2033 : decode cL_law 2033 = .ok (.iconst 1, 1) := by decide +kernel
theorem dL_law_2034 : decode cL_law 2034 = .ok (.iadd, 1) := by decide +kernel
theorem dL_law_2035 : decode cL_law 2035 = .ok (.iaload, 1) := by decide +kernel
theorem dL_law_2036 : decode cL_law 2036 = .ok (.aload_n 0, 1) := by decide +kernel
theorem dL_law_2037 : decode cL_law 2037 = .ok (.iload 4, 2) := by decide +kernel
theorem dL_law_2039 : decode cL_law 2039 = .ok (.iconst 2, 1) := by decide +kernel
theorem dL_law_2040 : decode cL_law 2040 = .ok (.iadd, 1) := by decide +kernel
theorem dL_law_2041 : decode cL_law 2041 = .ok (.iaload, 1) := by decide +kernel
theorem dL_law_2042 : decode cL_law 2042 = .ok (.ifCond .eq 7, 3) := by decide +kernel
theorem dL_law_2045 : decode cL_law 2045 = .ok (.iconst 1, 1) := by decide +kernel
theorem dL_law_2046 : decode cL_law 2046 = .ok (.goto 4, 3) := by decide +kernel
theorem dL_law_2049 : decode cL_law 2049 = .ok (.iconst 0, 1) := by decide +kernel
theorem dL_law_2050 : decode cL_law 2050 = .ok (.invokevirtual 277, 3) := by decide +kernel
theorem dL_law_2053 : decode cL_law 2053 = .ok (.istore 6, 2) := by decide +kernel
theorem dL_law_2055 : decode cL_law 2055 = .ok (.aload_n 2, 1) := by decide +kernel
theorem dL_law_2056 : decode cL_law 2056 = .ok (.invokevirtual 130, 3) := by decide +kernel
theorem dL_law_2059 : decode cL_law 2059 = .ok (.iload 5, 2) := by decide +kernel
theorem dL_law_2061 : decode cL_law 2061 = .ok (.if_icmp .eq 5, 3) := by decide +kernel
theorem dL_law_2064 : decode cL_law 2064 = .ok (.iconst 0, 1) := by decide +kernel
theorem dL_law_2065 : decode cL_law 2065 = .ok (.ireturn, 1) := by decide +kernel
theorem dL_law_2066 : decode cL_law 2066 = .ok (.iload 5, 2) := by decide +kernel
theorem dL_law_2068 : decode cL_law 2068 = .ok (.ifCond .ne 15, 3) := by decide +kernel
theorem dL_law_2071 : decode cL_law 2071 = .ok (.aload_n 3, 1) := by decide +kernel
theorem dL_law_2072 : decode cL_law 2072 = .ok (.iconst 0, 1) := by decide +kernel
theorem dL_law_2073 : decode cL_law 2073 = .ok (.laload, 1) := by decide +kernel
theorem dL_law_2074 : decode cL_law 2074 = .ok (.iload 6, 2) := by decide +kernel
theorem dL_law_2076 : decode cL_law 2076 = .ok (.i2l, 1) := by decide +kernel
theorem dL_law_2077 : decode cL_law 2077 = .ok (.lcmp, 1) := by decide +kernel
theorem dL_law_2078 : decode cL_law 2078 = .ok (.ifCond .eq 5, 3) := by decide +kernel
theorem dL_law_2081 : decode cL_law 2081 = .ok (.iconst 0, 1) := by decide +kernel
theorem dL_law_2082 : decode cL_law 2082 = .ok (.ireturn, 1) := by decide +kernel
theorem dL_law_2083 : decode cL_law 2083 = .ok (.goto 477, 3) := by decide +kernel
theorem dL_law_2086 : decode cL_law 2086 = .ok (.aload_n 1, 1) := by decide +kernel
theorem dL_law_2087 : decode cL_law 2087 = .ok (.aload_n 0, 1) := by decide +kernel
theorem dL_law_2088 : decode cL_law 2088 = .ok (.iload 4, 2) := by decide +kernel
theorem dL_law_2090 : decode cL_law 2090 = .ok (.iconst 1, 1) := by decide +kernel
theorem dL_law_2091 : decode cL_law 2091 = .ok (.iadd, 1) := by decide +kernel
theorem dL_law_2092 : decode cL_law 2092 = .ok (.iaload, 1) := by decide +kernel
theorem dL_law_2093 : decode cL_law 2093 = .ok (.aload_n 3, 1) := by decide +kernel
theorem dL_law_2094 : decode cL_law 2094 = .ok (.invokestatic 278, 3) := by decide +kernel
theorem dL_law_2097 : decode cL_law 2097 = .ok (.istore 5, 2) := by decide +kernel
theorem dL_law_2099 : decode cL_law 2099 = .ok (.aload_n 2, 1) := by decide +kernel
theorem dL_law_2100 : decode cL_law 2100 = .ok (.aload_n 0, 1) := by decide +kernel
theorem dL_law_2101 : decode cL_law 2101 = .ok (.iload 4, 2) := by decide +kernel
theorem dL_law_2103 : decode cL_law 2103 = .ok (.iconst 1, 1) := by decide +kernel
theorem dL_law_2104 : decode cL_law 2104 = .ok (.iadd, 1) := by decide +kernel
theorem dL_law_2105 : decode cL_law 2105 = .ok (.iaload, 1) := by decide +kernel
theorem dL_law_2106 : decode cL_law 2106 = .ok (.invokevirtual 280, 3) := by decide +kernel
theorem dL_law_2109 : decode cL_law 2109 = .ok (.istore 6, 2) := by decide +kernel
theorem dL_law_2111 : decode cL_law 2111 = .ok (.aload_n 2, 1) := by decide +kernel
theorem dL_law_2112 : decode cL_law 2112 = .ok (.invokevirtual 130, 3) := by decide +kernel
theorem dL_law_2115 : decode cL_law 2115 = .ok (.iload 5, 2) := by decide +kernel
theorem dL_law_2117 : decode cL_law 2117 = .ok (.if_icmp .eq 5, 3) := by decide +kernel
theorem dL_law_2120 : decode cL_law 2120 = .ok (.iconst 0, 1) := by decide +kernel
theorem dL_law_2121 : decode cL_law 2121 = .ok (.ireturn, 1) := by decide +kernel
theorem dL_law_2122 : decode cL_law 2122 = .ok (.iload 5, 2) := by decide +kernel
theorem dL_law_2124 : decode cL_law 2124 = .ok (.ifCond .ne 15, 3) := by decide +kernel
theorem dL_law_2127 : decode cL_law 2127 = .ok (.aload_n 3, 1) := by decide +kernel
theorem dL_law_2128 : decode cL_law 2128 = .ok (.iconst 0, 1) := by decide +kernel
theorem dL_law_2129 : decode cL_law 2129 = .ok (.laload, 1) := by decide +kernel
theorem dL_law_2130 : decode cL_law 2130 = .ok (.iload 6, 2) := by decide +kernel
theorem dL_law_2132 : decode cL_law 2132 = .ok (.i2l, 1) := by decide +kernel
theorem dL_law_2133 : decode cL_law 2133 = .ok (.lcmp, 1) := by decide +kernel
theorem dL_law_2134 : decode cL_law 2134 = .ok (.ifCond .eq 5, 3) := by decide +kernel
theorem dL_law_2137 : decode cL_law 2137 = .ok (.iconst 0, 1) := by decide +kernel
theorem dL_law_2138 : decode cL_law 2138 = .ok (.ireturn, 1) := by decide +kernel
theorem dL_law_2139 : decode cL_law 2139 = .ok (.goto 421, 3) := by decide +kernel
theorem dL_law_2142 : decode cL_law 2142 = .ok (.aload_n 1, 1) := by decide +kernel
theorem dL_law_2143 : decode cL_law 2143 = .ok (.invokevirtual 281, 3) := by decide +kernel
theorem dL_law_2146 : decode cL_law 2146 = .ok (.aload_n 2, 1) := by decide +kernel
theorem dL_law_2147 : decode cL_law 2147 = .ok (.invokevirtual 284, 3) := by decide +kernel
theorem dL_law_2150 : decode cL_law 2150 = .ok (.if_icmp .eq 410, 3) := by decide +kernel
theorem dL_law_2153 : decode cL_law 2153 = .ok (.iconst 0, 1) := by decide +kernel
theorem dL_law_2154 : decode cL_law 2154 = .ok (.ireturn, 1) := by decide +kernel
theorem dL_law_2155 : decode cL_law 2155 = .ok (.aload_n 1, 1) := by decide +kernel
theorem dL_law_2156 : decode cL_law 2156 = .ok (.aload_n 0, 1) := by decide +kernel
theorem dL_law_2157 : decode cL_law 2157 = .ok (.iload 4, 2) := by decide +kernel
theorem dL_law_2159 : decode cL_law 2159 = .ok (.iconst 1, 1) := by decide +kernel
theorem dL_law_2160 : decode cL_law 2160 = .ok (.iadd, 1) := by decide +kernel
theorem dL_law_2161 : decode cL_law 2161 = .ok (.iaload, 1) := by decide +kernel
theorem dL_law_2162 : decode cL_law 2162 = .ok (.aload_n 0, 1) := by decide +kernel
theorem dL_law_2163 : decode cL_law 2163 = .ok (.iload 4, 2) := by decide +kernel
theorem dL_law_2165 : decode cL_law 2165 = .ok (.iconst 2, 1) := by decide +kernel
theorem dL_law_2166 : decode cL_law 2166 = .ok (.iadd, 1) := by decide +kernel
theorem dL_law_2167 : decode cL_law 2167 = .ok (.iaload, 1) := by decide +kernel
theorem dL_law_2168 : decode cL_law 2168 = .ok (.aload_n 3, 1) := by decide +kernel
theorem dL_law_2169 : decode cL_law 2169 = .ok (.invokestatic 285, 3) := by decide +kernel
theorem dL_law_2172 : decode cL_law 2172 = .ok (.istore 5, 2) := by decide +kernel
theorem dL_law_2174 : decode cL_law 2174 = .ok (.aload_n 2, 1) := by decide +kernel
theorem dL_law_2175 : decode cL_law 2175 = .ok (.aload_n 0, 1) := by decide +kernel
theorem dL_law_2176 : decode cL_law 2176 = .ok (.iload 4, 2) := by decide +kernel
theorem dL_law_2178 : decode cL_law 2178 = .ok (.iconst 1, 1) := by decide +kernel
theorem dL_law_2179 : decode cL_law 2179 = .ok (.iadd, 1) := by decide +kernel
theorem dL_law_2180 : decode cL_law 2180 = .ok (.iaload, 1) := by decide +kernel
theorem dL_law_2181 : decode cL_law 2181 = .ok (.aload_n 0, 1) := by decide +kernel
theorem dL_law_2182 : decode cL_law 2182 = .ok (.iload 4, 2) := by decide +kernel
theorem dL_law_2184 : decode cL_law 2184 = .ok (.iconst 2, 1) := by decide +kernel
theorem dL_law_2185 : decode cL_law 2185 = .ok (.iadd, 1) := by decide +kernel
theorem dL_law_2186 : decode cL_law 2186 = .ok (.iaload, 1) := by decide +kernel
theorem dL_law_2187 : decode cL_law 2187 = .ok (.invokevirtual 287, 3) := by decide +kernel
theorem dL_law_2190 : decode cL_law 2190 = .ok (.istore 6, 2) := by decide +kernel
theorem dL_law_2192 : decode cL_law 2192 = .ok (.aload_n 2, 1) := by decide +kernel
theorem dL_law_2193 : decode cL_law 2193 = .ok (.invokevirtual 130, 3) := by decide +kernel
theorem dL_law_2196 : decode cL_law 2196 = .ok (.iload 5, 2) := by decide +kernel
theorem dL_law_2198 : decode cL_law 2198 = .ok (.if_icmp .eq 5, 3) := by decide +kernel
theorem dL_law_2201 : decode cL_law 2201 = .ok (.iconst 0, 1) := by decide +kernel
theorem dL_law_2202 : decode cL_law 2202 = .ok (.ireturn, 1) := by decide +kernel
theorem dL_law_2203 : decode cL_law 2203 = .ok (.iload 5, 2) := by decide +kernel
theorem dL_law_2205 : decode cL_law 2205 = .ok (.ifCond .ne 15, 3) := by decide +kernel
theorem dL_law_2208 : decode cL_law 2208 = .ok (.aload_n 3, 1) := by decide +kernel
theorem dL_law_2209 : decode cL_law 2209 = .ok (.iconst 0, 1) := by decide +kernel
theorem dL_law_2210 : decode cL_law 2210 = .ok (.laload, 1) := by decide +kernel
theorem dL_law_2211 : decode cL_law 2211 = .ok (.iload 6, 2) := by decide +kernel
theorem dL_law_2213 : decode cL_law 2213 = .ok (.i2l, 1) := by decide +kernel
theorem dL_law_2214 : decode cL_law 2214 = .ok (.lcmp, 1) := by decide +kernel
theorem dL_law_2215 : decode cL_law 2215 = .ok (.ifCond .eq 5, 3) := by decide +kernel
theorem dL_law_2218 : decode cL_law 2218 = .ok (.iconst 0, 1) := by decide +kernel
theorem dL_law_2219 : decode cL_law 2219 = .ok (.ireturn, 1) := by decide +kernel
theorem dL_law_2220 : decode cL_law 2220 = .ok (.goto 340, 3) := by decide +kernel
theorem dL_law_2223 : decode cL_law 2223 = .ok (.aload_n 1, 1) := by decide +kernel
theorem dL_law_2224 : decode cL_law 2224 = .ok (.aload_n 0, 1) := by decide +kernel
theorem dL_law_2225 : decode cL_law 2225 = .ok (.iload 4, 2) := by decide +kernel
theorem dL_law_2227 : decode cL_law 2227 = .ok (.iconst 1, 1) := by decide +kernel
theorem dL_law_2228 : decode cL_law 2228 = .ok (.iadd, 1) := by decide +kernel
theorem dL_law_2229 : decode cL_law 2229 = .ok (.iaload, 1) := by decide +kernel
theorem dL_law_2230 : decode cL_law 2230 = .ok (.aload_n 3, 1) := by decide +kernel
theorem dL_law_2231 : decode cL_law 2231 = .ok (.invokestatic 288, 3) := by decide +kernel
theorem dL_law_2234 : decode cL_law 2234 = .ok (.istore 5, 2) := by decide +kernel
theorem dL_law_2236 : decode cL_law 2236 = .ok (.aload_n 2, 1) := by decide +kernel
theorem dL_law_2237 : decode cL_law 2237 = .ok (.aload_n 0, 1) := by decide +kernel
theorem dL_law_2238 : decode cL_law 2238 = .ok (.iload 4, 2) := by decide +kernel
theorem dL_law_2240 : decode cL_law 2240 = .ok (.iconst 1, 1) := by decide +kernel
theorem dL_law_2241 : decode cL_law 2241 = .ok (.iadd, 1) := by decide +kernel
theorem dL_law_2242 : decode cL_law 2242 = .ok (.iaload, 1) := by decide +kernel
theorem dL_law_2243 : decode cL_law 2243 = .ok (.invokevirtual 290, 3) := by decide +kernel
theorem dL_law_2246 : decode cL_law 2246 = .ok (.istore 6, 2) := by decide +kernel
theorem dL_law_2248 : decode cL_law 2248 = .ok (.aload_n 2, 1) := by decide +kernel
theorem dL_law_2249 : decode cL_law 2249 = .ok (.invokevirtual 130, 3) := by decide +kernel
theorem dL_law_2252 : decode cL_law 2252 = .ok (.iload 5, 2) := by decide +kernel
theorem dL_law_2254 : decode cL_law 2254 = .ok (.if_icmp .eq 5, 3) := by decide +kernel
theorem dL_law_2257 : decode cL_law 2257 = .ok (.iconst 0, 1) := by decide +kernel
theorem dL_law_2258 : decode cL_law 2258 = .ok (.ireturn, 1) := by decide +kernel
theorem dL_law_2259 : decode cL_law 2259 = .ok (.iload 5, 2) := by decide +kernel
theorem dL_law_2261 : decode cL_law 2261 = .ok (.ifCond .ne 15, 3) := by decide +kernel
theorem dL_law_2264 : decode cL_law 2264 = .ok (.aload_n 3, 1) := by decide +kernel
theorem dL_law_2265 : decode cL_law 2265 = .ok (.iconst 0, 1) := by decide +kernel
theorem dL_law_2266 : decode cL_law 2266 = .ok (.laload, 1) := by decide +kernel
theorem dL_law_2267 : decode cL_law 2267 = .ok (.iload 6, 2) := by decide +kernel
theorem dL_law_2269 : decode cL_law 2269 = .ok (.i2l, 1) := by decide +kernel
theorem dL_law_2270 : decode cL_law 2270 = .ok (.lcmp, 1) := by decide +kernel
theorem dL_law_2271 : decode cL_law 2271 = .ok (.ifCond .eq 5, 3) := by decide +kernel
theorem dL_law_2274 : decode cL_law 2274 = .ok (.iconst 0, 1) := by decide +kernel
theorem dL_law_2275 : decode cL_law 2275 = .ok (.ireturn, 1) := by decide +kernel
theorem dL_law_2276 : decode cL_law 2276 = .ok (.goto 284, 3) := by decide +kernel
theorem dL_law_2279 : decode cL_law 2279 = .ok (.aload_n 1, 1) := by decide +kernel
theorem dL_law_2280 : decode cL_law 2280 = .ok (.aload_n 0, 1) := by decide +kernel
theorem dL_law_2281 : decode cL_law 2281 = .ok (.iload 4, 2) := by decide +kernel
theorem dL_law_2283 : decode cL_law 2283 = .ok (.iconst 1, 1) := by decide +kernel
theorem dL_law_2284 : decode cL_law 2284 = .ok (.iadd, 1) := by decide +kernel
theorem dL_law_2285 : decode cL_law 2285 = .ok (.iaload, 1) := by decide +kernel
theorem dL_law_2286 : decode cL_law 2286 = .ok (.aload_n 3, 1) := by decide +kernel
theorem dL_law_2287 : decode cL_law 2287 = .ok (.invokestatic 291, 3) := by decide +kernel
theorem dL_law_2290 : decode cL_law 2290 = .ok (.istore 5, 2) := by decide +kernel
theorem dL_law_2292 : decode cL_law 2292 = .ok (.aload_n 2, 1) := by decide +kernel
theorem dL_law_2293 : decode cL_law 2293 = .ok (.aload_n 0, 1) := by decide +kernel
theorem dL_law_2294 : decode cL_law 2294 = .ok (.iload 4, 2) := by decide +kernel
theorem dL_law_2296 : decode cL_law 2296 = .ok (.iconst 1, 1) := by decide +kernel
theorem dL_law_2297 : decode cL_law 2297 = .ok (.iadd, 1) := by decide +kernel
theorem dL_law_2298 : decode cL_law 2298 = .ok (.iaload, 1) := by decide +kernel
theorem dL_law_2299 : decode cL_law 2299 = .ok (.invokevirtual 293, 3) := by decide +kernel
theorem dL_law_2302 : decode cL_law 2302 = .ok (.istore 6, 2) := by decide +kernel
theorem dL_law_2304 : decode cL_law 2304 = .ok (.aload_n 2, 1) := by decide +kernel
theorem dL_law_2305 : decode cL_law 2305 = .ok (.invokevirtual 130, 3) := by decide +kernel
theorem dL_law_2308 : decode cL_law 2308 = .ok (.iload 5, 2) := by decide +kernel
theorem dL_law_2310 : decode cL_law 2310 = .ok (.if_icmp .eq 5, 3) := by decide +kernel
theorem dL_law_2313 : decode cL_law 2313 = .ok (.iconst 0, 1) := by decide +kernel
theorem dL_law_2314 : decode cL_law 2314 = .ok (.ireturn, 1) := by decide +kernel
theorem dL_law_2315 : decode cL_law 2315 = .ok (.iload 5, 2) := by decide +kernel
theorem dL_law_2317 : decode cL_law 2317 = .ok (.ifCond .ne 15, 3) := by decide +kernel
theorem dL_law_2320 : decode cL_law 2320 = .ok (.aload_n 3, 1) := by decide +kernel
theorem dL_law_2321 : decode cL_law 2321 = .ok (.iconst 0, 1) := by decide +kernel
theorem dL_law_2322 : decode cL_law 2322 = .ok (.laload, 1) := by decide +kernel
theorem dL_law_2323 : decode cL_law 2323 = .ok (.iload 6, 2) := by decide +kernel
theorem dL_law_2325 : decode cL_law 2325 = .ok (.i2l, 1) := by decide +kernel
theorem dL_law_2326 : decode cL_law 2326 = .ok (.lcmp, 1) := by decide +kernel
theorem dL_law_2327 : decode cL_law 2327 = .ok (.ifCond .eq 5, 3) := by decide +kernel
theorem dL_law_2330 : decode cL_law 2330 = .ok (.iconst 0, 1) := by decide +kernel
theorem dL_law_2331 : decode cL_law 2331 = .ok (.ireturn, 1) := by decide +kernel
theorem dL_law_2332 : decode cL_law 2332 = .ok (.goto 228, 3) := by decide +kernel
theorem dL_law_2335 : decode cL_law 2335 = .ok (.aload_n 1, 1) := by decide +kernel
theorem dL_law_2336 : decode cL_law 2336 = .ok (.aload_n 3, 1) := by decide +kernel
theorem dL_law_2337 : decode cL_law 2337 = .ok (.invokestatic 294, 3) := by decide +kernel
theorem dL_law_2340 : decode cL_law 2340 = .ok (.istore 5, 2) := by decide +kernel
theorem dL_law_2342 : decode cL_law 2342 = .ok (.aload_n 2, 1) := by decide +kernel
theorem dL_law_2343 : decode cL_law 2343 = .ok (.invokevirtual 296, 3) := by decide +kernel
theorem dL_law_2346 : decode cL_law 2346 = .ok (.istore 6, 2) := by decide +kernel
theorem dL_law_2348 : decode cL_law 2348 = .ok (.aload_n 2, 1) := by decide +kernel
theorem dL_law_2349 : decode cL_law 2349 = .ok (.invokevirtual 130, 3) := by decide +kernel
theorem dL_law_2352 : decode cL_law 2352 = .ok (.iload 5, 2) := by decide +kernel
theorem dL_law_2354 : decode cL_law 2354 = .ok (.if_icmp .eq 5, 3) := by decide +kernel
theorem dL_law_2357 : decode cL_law 2357 = .ok (.iconst 0, 1) := by decide +kernel
theorem dL_law_2358 : decode cL_law 2358 = .ok (.ireturn, 1) := by decide +kernel
theorem dL_law_2359 : decode cL_law 2359 = .ok (.iload 5, 2) := by decide +kernel
theorem dL_law_2361 : decode cL_law 2361 = .ok (.ifCond .ne 15, 3) := by decide +kernel
theorem dL_law_2364 : decode cL_law 2364 = .ok (.aload_n 3, 1) := by decide +kernel
theorem dL_law_2365 : decode cL_law 2365 = .ok (.iconst 0, 1) := by decide +kernel
theorem dL_law_2366 : decode cL_law 2366 = .ok (.laload, 1) := by decide +kernel
theorem dL_law_2367 : decode cL_law 2367 = .ok (.iload 6, 2) := by decide +kernel
theorem dL_law_2369 : decode cL_law 2369 = .ok (.i2l, 1) := by decide +kernel
theorem dL_law_2370 : decode cL_law 2370 = .ok (.lcmp, 1) := by decide +kernel
theorem dL_law_2371 : decode cL_law 2371 = .ok (.ifCond .eq 5, 3) := by decide +kernel
theorem dL_law_2374 : decode cL_law 2374 = .ok (.iconst 0, 1) := by decide +kernel
theorem dL_law_2375 : decode cL_law 2375 = .ok (.ireturn, 1) := by decide +kernel
theorem dL_law_2376 : decode cL_law 2376 = .ok (.goto 184, 3) := by decide +kernel
theorem dL_law_2379 : decode cL_law 2379 = .ok (.aload_n 1, 1) := by decide +kernel
theorem dL_law_2380 : decode cL_law 2380 = .ok (.invokevirtual 297, 3) := by decide +kernel
theorem dL_law_2383 : decode cL_law 2383 = .ok (.aload_n 2, 1) := by decide +kernel
theorem dL_law_2384 : decode cL_law 2384 = .ok (.invokevirtual 300, 3) := by decide +kernel
theorem dL_law_2387 : decode cL_law 2387 = .ok (.if_icmp .eq 173, 3) := by decide +kernel
theorem dL_law_2390 : decode cL_law 2390 = .ok (.iconst 0, 1) := by decide +kernel
theorem dL_law_2391 : decode cL_law 2391 = .ok (.ireturn, 1) := by decide +kernel
theorem dL_law_2392 : decode cL_law 2392 = .ok (.aload_n 1, 1) := by decide +kernel
theorem dL_law_2393 : decode cL_law 2393 = .ok (.aload_n 0, 1) := by decide +kernel
theorem dL_law_2394 : decode cL_law 2394 = .ok (.iload 4, 2) := by decide +kernel
theorem dL_law_2396 : decode cL_law 2396 = .ok (.iconst 1, 1) := by decide +kernel
theorem dL_law_2397 : decode cL_law 2397 = .ok (.iadd, 1) := by decide +kernel
theorem dL_law_2398 : decode cL_law 2398 = .ok (.iaload, 1) := by decide +kernel
theorem dL_law_2399 : decode cL_law 2399 = .ok (.aload_n 3, 1) := by decide +kernel
theorem dL_law_2400 : decode cL_law 2400 = .ok (.invokestatic 301, 3) := by decide +kernel
theorem dL_law_2403 : decode cL_law 2403 = .ok (.istore 5, 2) := by decide +kernel
theorem dL_law_2405 : decode cL_law 2405 = .ok (.aload_n 2, 1) := by decide +kernel
theorem dL_law_2406 : decode cL_law 2406 = .ok (.aload_n 0, 1) := by decide +kernel
theorem dL_law_2407 : decode cL_law 2407 = .ok (.iload 4, 2) := by decide +kernel
theorem dL_law_2409 : decode cL_law 2409 = .ok (.iconst 1, 1) := by decide +kernel
theorem dL_law_2410 : decode cL_law 2410 = .ok (.iadd, 1) := by decide +kernel
theorem dL_law_2411 : decode cL_law 2411 = .ok (.iaload, 1) := by decide +kernel
theorem dL_law_2412 : decode cL_law 2412 = .ok (.invokevirtual 303, 3) := by decide +kernel
theorem dL_law_2415 : decode cL_law 2415 = .ok (.istore 6, 2) := by decide +kernel
theorem dL_law_2417 : decode cL_law 2417 = .ok (.aload_n 2, 1) := by decide +kernel
theorem dL_law_2418 : decode cL_law 2418 = .ok (.invokevirtual 130, 3) := by decide +kernel
theorem dL_law_2421 : decode cL_law 2421 = .ok (.iload 5, 2) := by decide +kernel
theorem dL_law_2423 : decode cL_law 2423 = .ok (.if_icmp .eq 5, 3) := by decide +kernel
theorem dL_law_2426 : decode cL_law 2426 = .ok (.iconst 0, 1) := by decide +kernel
theorem dL_law_2427 : decode cL_law 2427 = .ok (.ireturn, 1) := by decide +kernel
theorem dL_law_2428 : decode cL_law 2428 = .ok (.iload 5, 2) := by decide +kernel
theorem dL_law_2430 : decode cL_law 2430 = .ok (.ifCond .ne 15, 3) := by decide +kernel
theorem dL_law_2433 : decode cL_law 2433 = .ok (.aload_n 3, 1) := by decide +kernel
theorem dL_law_2434 : decode cL_law 2434 = .ok (.iconst 0, 1) := by decide +kernel
theorem dL_law_2435 : decode cL_law 2435 = .ok (.laload, 1) := by decide +kernel
theorem dL_law_2436 : decode cL_law 2436 = .ok (.iload 6, 2) := by decide +kernel
theorem dL_law_2438 : decode cL_law 2438 = .ok (.i2l, 1) := by decide +kernel
theorem dL_law_2439 : decode cL_law 2439 = .ok (.lcmp, 1) := by decide +kernel
theorem dL_law_2440 : decode cL_law 2440 = .ok (.ifCond .eq 5, 3) := by decide +kernel
theorem dL_law_2443 : decode cL_law 2443 = .ok (.iconst 0, 1) := by decide +kernel
theorem dL_law_2444 : decode cL_law 2444 = .ok (.ireturn, 1) := by decide +kernel
theorem dL_law_2445 : decode cL_law 2445 = .ok (.goto 115, 3) := by decide +kernel
theorem dL_law_2448 : decode cL_law 2448 = .ok (.aload_n 1, 1) := by decide +kernel
theorem dL_law_2449 : decode cL_law 2449 = .ok (.aload_n 0, 1) := by decide +kernel
theorem dL_law_2450 : decode cL_law 2450 = .ok (.iload 4, 2) := by decide +kernel
theorem dL_law_2452 : decode cL_law 2452 = .ok (.iconst 1, 1) := by decide +kernel
theorem dL_law_2453 : decode cL_law 2453 = .ok (.iadd, 1) := by decide +kernel
theorem dL_law_2454 : decode cL_law 2454 = .ok (.iaload, 1) := by decide +kernel
theorem dL_law_2455 : decode cL_law 2455 = .ok (.aload_n 3, 1) := by decide +kernel
theorem dL_law_2456 : decode cL_law 2456 = .ok (.invokestatic 304, 3) := by decide +kernel
theorem dL_law_2459 : decode cL_law 2459 = .ok (.istore 5, 2) := by decide +kernel
theorem dL_law_2461 : decode cL_law 2461 = .ok (.aload_n 2, 1) := by decide +kernel
theorem dL_law_2462 : decode cL_law 2462 = .ok (.aload_n 0, 1) := by decide +kernel
theorem dL_law_2463 : decode cL_law 2463 = .ok (.iload 4, 2) := by decide +kernel
theorem dL_law_2465 : decode cL_law 2465 = .ok (.iconst 1, 1) := by decide +kernel
theorem dL_law_2466 : decode cL_law 2466 = .ok (.iadd, 1) := by decide +kernel
theorem dL_law_2467 : decode cL_law 2467 = .ok (.iaload, 1) := by decide +kernel
theorem dL_law_2468 : decode cL_law 2468 = .ok (.invokevirtual 306, 3) := by decide +kernel
theorem dL_law_2471 : decode cL_law 2471 = .ok (.istore 6, 2) := by decide +kernel
theorem dL_law_2473 : decode cL_law 2473 = .ok (.aload_n 2, 1) := by decide +kernel
theorem dL_law_2474 : decode cL_law 2474 = .ok (.invokevirtual 130, 3) := by decide +kernel
theorem dL_law_2477 : decode cL_law 2477 = .ok (.iload 5, 2) := by decide +kernel
theorem dL_law_2479 : decode cL_law 2479 = .ok (.if_icmp .eq 5, 3) := by decide +kernel
theorem dL_law_2482 : decode cL_law 2482 = .ok (.iconst 0, 1) := by decide +kernel
theorem dL_law_2483 : decode cL_law 2483 = .ok (.ireturn, 1) := by decide +kernel
theorem dL_law_2484 : decode cL_law 2484 = .ok (.iload 5, 2) := by decide +kernel
theorem dL_law_2486 : decode cL_law 2486 = .ok (.ifCond .ne 15, 3) := by decide +kernel
theorem dL_law_2489 : decode cL_law 2489 = .ok (.aload_n 3, 1) := by decide +kernel
theorem dL_law_2490 : decode cL_law 2490 = .ok (.iconst 0, 1) := by decide +kernel
theorem dL_law_2491 : decode cL_law 2491 = .ok (.laload, 1) := by decide +kernel
theorem dL_law_2492 : decode cL_law 2492 = .ok (.iload 6, 2) := by decide +kernel
theorem dL_law_2494 : decode cL_law 2494 = .ok (.i2l, 1) := by decide +kernel
theorem dL_law_2495 : decode cL_law 2495 = .ok (.lcmp, 1) := by decide +kernel
theorem dL_law_2496 : decode cL_law 2496 = .ok (.ifCond .eq 5, 3) := by decide +kernel
theorem dL_law_2499 : decode cL_law 2499 = .ok (.iconst 0, 1) := by decide +kernel
theorem dL_law_2500 : decode cL_law 2500 = .ok (.ireturn, 1) := by decide +kernel
theorem dL_law_2501 : decode cL_law 2501 = .ok (.goto 59, 3) := by decide +kernel
theorem dL_law_2504 : decode cL_law 2504 = .ok (.aload_n 1, 1) := by decide +kernel
theorem dL_law_2505 : decode cL_law 2505 = .ok (.aload_n 0, 1) := by decide +kernel
theorem dL_law_2506 : decode cL_law 2506 = .ok (.iload 4, 2) := by decide +kernel
theorem dL_law_2508 : decode cL_law 2508 = .ok (.iconst 1, 1) := by decide +kernel
theorem dL_law_2509 : decode cL_law 2509 = .ok (.iadd, 1) := by decide +kernel
theorem dL_law_2510 : decode cL_law 2510 = .ok (.iaload, 1) := by decide +kernel
theorem dL_law_2511 : decode cL_law 2511 = .ok (.aload_n 3, 1) := by decide +kernel
theorem dL_law_2512 : decode cL_law 2512 = .ok (.invokestatic 307, 3) := by decide +kernel
theorem dL_law_2515 : decode cL_law 2515 = .ok (.istore 5, 2) := by decide +kernel
theorem dL_law_2517 : decode cL_law 2517 = .ok (.aload_n 2, 1) := by decide +kernel
theorem dL_law_2518 : decode cL_law 2518 = .ok (.aload_n 0, 1) := by decide +kernel
theorem dL_law_2519 : decode cL_law 2519 = .ok (.iload 4, 2) := by decide +kernel
theorem dL_law_2521 : decode cL_law 2521 = .ok (.iconst 1, 1) := by decide +kernel
theorem dL_law_2522 : decode cL_law 2522 = .ok (.iadd, 1) := by decide +kernel
theorem dL_law_2523 : decode cL_law 2523 = .ok (.iaload, 1) := by decide +kernel
theorem dL_law_2524 : decode cL_law 2524 = .ok (.invokevirtual 309, 3) := by decide +kernel
theorem dL_law_2527 : decode cL_law 2527 = .ok (.istore 6, 2) := by decide +kernel
theorem dL_law_2529 : decode cL_law 2529 = .ok (.aload_n 2, 1) := by decide +kernel
theorem dL_law_2530 : decode cL_law 2530 = .ok (.invokevirtual 130, 3) := by decide +kernel
theorem dL_law_2533 : decode cL_law 2533 = .ok (.iload 5, 2) := by decide +kernel
theorem dL_law_2535 : decode cL_law 2535 = .ok (.if_icmp .eq 5, 3) := by decide +kernel
theorem dL_law_2538 : decode cL_law 2538 = .ok (.iconst 0, 1) := by decide +kernel
theorem dL_law_2539 : decode cL_law 2539 = .ok (.ireturn, 1) := by decide +kernel
theorem dL_law_2540 : decode cL_law 2540 = .ok (.iload 5, 2) := by decide +kernel
theorem dL_law_2542 : decode cL_law 2542 = .ok (.ifCond .ne 15, 3) := by decide +kernel
theorem dL_law_2545 : decode cL_law 2545 = .ok (.aload_n 3, 1) := by decide +kernel
theorem dL_law_2546 : decode cL_law 2546 = .ok (.iconst 0, 1) := by decide +kernel
theorem dL_law_2547 : decode cL_law 2547 = .ok (.laload, 1) := by decide +kernel
theorem dL_law_2548 : decode cL_law 2548 = .ok (.iload 6, 2) := by decide +kernel
theorem dL_law_2550 : decode cL_law 2550 = .ok (.i2l, 1) := by decide +kernel
theorem dL_law_2551 : decode cL_law 2551 = .ok (.lcmp, 1) := by decide +kernel
theorem dL_law_2552 : decode cL_law 2552 = .ok (.ifCond .eq 5, 3) := by decide +kernel
theorem dL_law_2555 : decode cL_law 2555 = .ok (.iconst 0, 1) := by decide +kernel
theorem dL_law_2556 : decode cL_law 2556 = .ok (.ireturn, 1) := by decide +kernel
theorem dL_law_2557 : decode cL_law 2557 = .ok (.goto 3, 3) := by decide +kernel
theorem dL_law_2560 : decode cL_law 2560 = .ok (.iinc 4 6, 3) := by decide +kernel
theorem dL_law_2563 : decode cL_law 2563 = .ok (.goto (-2540), 3) := by decide +kernel
theorem dL_law_2566 : decode cL_law 2566 = .ok (.iconst 1, 1) := by decide +kernel
theorem dL_law_2567 : decode cL_law 2567 = .ok (.ireturn, 1) := by decide +kernel
