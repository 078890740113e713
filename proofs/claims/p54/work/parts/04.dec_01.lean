theorem dX8_needWord_23 : decode cX8_needWord 23 = .ok (.return_, 1) := by decide +kernel
theorem dX8_needRow_0 : decode cX8_needRow 0 = .ok (.iload_n 1, 1) := by decide +kernel
theorem dX8_needRow_1 : decode cX8_needRow 1 = .ok (.ifCond .lt 14, 3) := by decide +kernel
theorem dX8_needRow_4 : decode cX8_needRow 4 = .ok (.iload_n 1, 1) := by decide +kernel
theorem dX8_needRow_5 : decode cX8_needRow 5 = .ok (.aload_n 0, 1) := by decide +kernel
theorem dX8_needRow_6 : decode cX8_needRow 6 = .ok (.getfield 42, 3) := by decide +kernel
theorem dX8_needRow_9 : decode cX8_needRow 9 = .ok (.getfield 109, 3) := by decide +kernel
theorem dX8_needRow_12 : decode cX8_needRow 12 = .ok (.if_icmp .lt 11, 3) := by decide +kernel
theorem dX8_needRow_15 : decode cX8_needRow 15 = .ok (.new 198, 3) := by decide +kernel
theorem dX8_needRow_18 : decode cX8_needRow 18 = .ok (.dup, 1) := by decide +kernel
theorem dX8_needRow_19 : decode cX8_needRow 19 = .ok (.invokespecial 200, 3) := by decide +kernel
theorem dX8_needRow_22 : decode cX8_needRow 22 = .ok (.athrow, 1) := by decide +kernel
theorem dX8_needRow_23 : decode cX8_needRow 23 = .ok (.return_, 1) := by decide +kernel
theorem dX8_needCell_0 : decode cX8_needCell 0 = .ok (.aload_n 0, 1) := by decide +kernel
theorem dX8_needCell_1 : decode cX8_needCell 1 = .ok (.iload_n 2, 1) := by decide +kernel
theorem dX8_needCell_2 : decode cX8_needCell 2 = .ok (.invokevirtual 216, 3) := by decide +kernel
theorem dX8_needCell_5 : decode cX8_needCell 5 = .ok (.iload_n 1, 1) := by decide +kernel
theorem dX8_needCell_6 : decode cX8_needCell 6 = .ok (.ifCond .lt 14, 3) := by decide +kernel
theorem dX8_needCell_9 : decode cX8_needCell 9 = .ok (.iload_n 1, 1) := by decide +kernel
theorem dX8_needCell_10 : decode cX8_needCell 10 = .ok (.aload_n 0, 1) := by decide +kernel
theorem dX8_needCell_11 : decode cX8_needCell 11 = .ok (.getfield 42, 3) := by decide +kernel
theorem dX8_needCell_14 : decode cX8_needCell 14 = .ok (.getfield 106, 3) := by decide +kernel
theorem dX8_needCell_17 : decode cX8_needCell 17 = .ok (.if_icmp .lt 11, 3) := by decide +kernel
theorem dX8_needCell_20 : decode cX8_needCell 20 = .ok (.new 198, 3) := by decide +kernel
theorem dX8_needCell_23 : decode cX8_needCell 23 = .ok (.dup, 1) := by decide +kernel
theorem dX8_needCell_24 : decode cX8_needCell 24 = .ok (.invokespecial 200, 3) := by decide +kernel
theorem dX8_needCell_27 : decode cX8_needCell 27 = .ok (.athrow, 1) := by decide +kernel
theorem dX8_needCell_28 : decode cX8_needCell 28 = .ok (.return_, 1) := by decide +kernel
theorem dX8_needGap_0 : decode cX8_needGap 0 = .ok (.iload_n 1, 1) := by decide +kernel
theorem dX8_needGap_1 : decode cX8_needGap 1 = .ok (.ifCond .lt 8, 3) := by decide +kernel
theorem dX8_needGap_4 : decode cX8_needGap 4 = .ok (.iload_n 1, 1) := by decide +kernel
theorem dX8_needGap_5 : decode cX8_needGap 5 = .ok (.iconst 3, 1) := by decide +kernel
theorem dX8_needGap_6 : decode cX8_needGap 6 = .ok (.if_icmp .le 11, 3) := by decide +kernel
theorem dX8_needGap_9 : decode cX8_needGap 9 = .ok (.new 87, 3) := by decide +kernel
theorem dX8_needGap_12 : decode cX8_needGap 12 = .ok (.dup, 1) := by decide +kernel
theorem dX8_needGap_13 : decode cX8_needGap 13 = .ok (.invokespecial 89, 3) := by decide +kernel
theorem dX8_needGap_16 : decode cX8_needGap 16 = .ok (.athrow, 1) := by decide +kernel
theorem dX8_needGap_17 : decode cX8_needGap 17 = .ok (.return_, 1) := by decide +kernel
theorem dX8_tryWithout_0 : decode cX8_tryWithout 0 = .ok (.aload_n 0, 1) := by decide +kernel
theorem dX8_tryWithout_1 : decode cX8_tryWithout 1 = .ok (.getfield 53, 3) := by decide +kernel
theorem dX8_tryWithout_4 : decode cX8_tryWithout 4 = .ok (.aload_n 0, 1) := by decide +kernel
theorem dX8_tryWithout_5 : decode cX8_tryWithout 5 = .ok (.getfield 42, 3) := by decide +kernel
theorem dX8_tryWithout_8 : decode cX8_tryWithout 8 = .ok (.invokevirtual 241, 3) := by decide +kernel
theorem dX8_tryWithout_11 : decode cX8_tryWithout 11 = .ok (.aload_n 0, 1) := by decide +kernel
theorem dX8_tryWithout_12 : decode cX8_tryWithout 12 = .ok (.getfield 53, 3) := by decide +kernel
theorem dX8_tryWithout_15 : decode cX8_tryWithout 15 = .ok (.invokevirtual 318, 3) := by decide +kernel
theorem dX8_tryWithout_18 : decode cX8_tryWithout 18 = .ok (.iconst 0, 1) := by decide +kernel
theorem dX8_tryWithout_19 : decode cX8_tryWithout 19 = .ok (.istore_n 2, 1) := by decide +kernel
theorem dX8_tryWithout_20 : decode cX8_tryWithout 20 = .ok (.iload_n 2, 1) := by decide +kernel
theorem dX8_tryWithout_21 : decode cX8_tryWithout 21 = .ok (.aload_n 0, 1) := by decide +kernel
theorem dX8_tryWithout_22 : decode cX8_tryWithout 22 = .ok (.getfield 42, 3) := by decide +kernel
theorem dX8_tryWithout_25 : decode cX8_tryWithout 25 = .ok (.getfield 119, 3) := by decide +kernel
theorem dX8_tryWithout_28 : decode cX8_tryWithout 28 = .ok (.if_icmp .ge 26, 3) := by decide +kernel
theorem dX8_tryWithout_31 : decode cX8_tryWithout 31 = .ok (.iload_n 2, 1) := by decide +kernel
theorem dX8_tryWithout_32 : decode cX8_tryWithout 32 = .ok (.iload_n 1, 1) := by decide +kernel
theorem dX8_tryWithout_33 : decode cX8_tryWithout 33 = .ok (.if_icmp .eq 15, 3) := by decide +kernel
theorem dX8_tryWithout_36 : decode cX8_tryWithout 36 = .ok (.aload_n 0, 1) := by decide +kernel
theorem dX8_tryWithout_37 : decode cX8_tryWithout 37 = .ok (.getfield 53, 3) := by decide +kernel
theorem dX8_tryWithout_40 : decode cX8_tryWithout 40 = .ok (.aload_n 0, 1) := by decide +kernel
theorem dX8_tryWithout_41 : decode cX8_tryWithout 41 = .ok (.getfield 42, 3) := by decide +kernel
theorem dX8_tryWithout_44 : decode cX8_tryWithout 44 = .ok (.iload_n 2, 1) := by decide +kernel
theorem dX8_tryWithout_45 : decode cX8_tryWithout 45 = .ok (.invokevirtual 321, 3) := by decide +kernel
theorem dX8_tryWithout_48 : decode cX8_tryWithout 48 = .ok (.iinc 2 1, 3) := by decide +kernel
theorem dX8_tryWithout_51 : decode cX8_tryWithout 51 = .ok (.goto (-31), 3) := by decide +kernel
theorem dX8_tryWithout_54 : decode cX8_tryWithout 54 = .ok (.return_, 1) := by decide +kernel
theorem dX8_tryMoved_0 : decode cX8_tryMoved 0 = .ok (.aload_n 0, 1) := by decide +kernel
theorem dX8_tryMoved_1 : decode cX8_tryMoved 1 = .ok (.getfield 53, 3) := by decide +kernel
theorem dX8_tryMoved_4 : decode cX8_tryMoved 4 = .ok (.aload_n 0, 1) := by decide +kernel
theorem dX8_tryMoved_5 : decode cX8_tryMoved 5 = .ok (.getfield 42, 3) := by decide +kernel
theorem dX8_tryMoved_8 : decode cX8_tryMoved 8 = .ok (.invokevirtual 241, 3) := by decide +kernel
theorem dX8_tryMoved_11 : decode cX8_tryMoved 11 = .ok (.aload_n 0, 1) := by decide +kernel
theorem dX8_tryMoved_12 : decode cX8_tryMoved 12 = .ok (.getfield 53, 3) := by decide +kernel
theorem dX8_tryMoved_15 : decode cX8_tryMoved 15 = .ok (.invokevirtual 318, 3) := by decide +kernel
theorem dX8_tryMoved_18 : decode cX8_tryMoved 18 = .ok (.iconst 0, 1) := by decide +kernel
theorem dX8_tryMoved_19 : decode cX8_tryMoved 19 = .ok (.istore_n 3, 1) := by decide +kernel
theorem dX8_tryMoved_20 : decode cX8_tryMoved 20 = .ok (.iload_n 3, 1) := by decide +kernel
theorem dX8_tryMoved_21 : decode cX8_tryMoved 21 = .ok (.aload_n 0, 1) := by decide +kernel
theorem dX8_tryMoved_22 : decode cX8_tryMoved 22 = .ok (.getfield 42, 3) := by decide +kernel
theorem dX8_tryMoved_25 : decode cX8_tryMoved 25 = .ok (.getfield 119, 3) := by decide +kernel
theorem dX8_tryMoved_28 : decode cX8_tryMoved 28 = .ok (.if_icmp .ge 26, 3) := by decide +kernel
theorem dX8_tryMoved_31 : decode cX8_tryMoved 31 = .ok (.aload_n 0, 1) := by decide +kernel
theorem dX8_tryMoved_32 : decode cX8_tryMoved 32 = .ok (.getfield 53, 3) := by decide +kernel
theorem dX8_tryMoved_35 : decode cX8_tryMoved 35 = .ok (.aload_n 0, 1) := by decide +kernel
theorem dX8_tryMoved_36 : decode cX8_tryMoved 36 = .ok (.getfield 42, 3) := by decide +kernel
theorem dX8_tryMoved_39 : decode cX8_tryMoved 39 = .ok (.iload_n 3, 1) := by decide +kernel
theorem dX8_tryMoved_40 : decode cX8_tryMoved 40 = .ok (.iload_n 1, 1) := by decide +kernel
theorem dX8_tryMoved_41 : decode cX8_tryMoved 41 = .ok (.iload_n 2, 1) := by decide +kernel
theorem dX8_tryMoved_42 : decode cX8_tryMoved 42 = .ok (.invokestatic 325, 3) := by decide +kernel
theorem dX8_tryMoved_45 : decode cX8_tryMoved 45 = .ok (.invokevirtual 321, 3) := by decide +kernel
theorem dX8_tryMoved_48 : decode cX8_tryMoved 48 = .ok (.iinc 3 1, 3) := by decide +kernel
theorem dX8_tryMoved_51 : decode cX8_tryMoved 51 = .ok (.goto (-31), 3) := by decide +kernel
theorem dX8_tryMoved_54 : decode cX8_tryMoved 54 = .ok (.return_, 1) := by decide +kernel
theorem dX8_partForPlace_0 : decode cX8_partForPlace 0 = .ok (.iload_n 0, 1) := by decide +kernel
theorem dX8_partForPlace_1 : decode cX8_partForPlace 1 = .ok (.iload_n 2, 1) := by decide +kernel
theorem dX8_partForPlace_2 : decode cX8_partForPlace 2 = .ok (.if_icmp .ne 5, 3) := by decide +kernel
theorem dX8_partForPlace_5 : decode cX8_partForPlace 5 = .ok (.iload_n 1, 1) := by decide +kernel
theorem dX8_partForPlace_6 : decode cX8_partForPlace 6 = .ok (.ireturn, 1) := by decide +kernel
theorem dX8_partForPlace_7 : decode cX8_partForPlace 7 = .ok (.iload_n 0, 1) := by decide +kernel
theorem dX8_partForPlace_8 : decode cX8_partForPlace 8 = .ok (.iload_n 2, 1) := by decide +kernel
theorem dX8_partForPlace_9 : decode cX8_partForPlace 9 = .ok (.if_icmp .ge 7, 3) := by decide +kernel
theorem dX8_partForPlace_12 : decode cX8_partForPlace 12 = .ok (.iload_n 0, 1) := by decide +kernel
theorem dX8_partForPlace_13 : decode cX8_partForPlace 13 = .ok (.goto 6, 3) := by decide +kernel
theorem dX8_partForPlace_16 : decode cX8_partForPlace 16 = .ok (.iload_n 0, 1) := by decide +kernel
theorem dX8_partForPlace_17 : decode cX8_partForPlace 17 = .ok (.iconst 1, 1) := by decide +kernel
theorem dX8_partForPlace_18 : decode cX8_partForPlace 18 = .ok (.isub, 1) := by decide +kernel
theorem dX8_partForPlace_19 : decode cX8_partForPlace 19 = .ok (.istore_n 3, 1) := by decide +kernel
theorem dX8_partForPlace_20 : decode cX8_partForPlace 20 = .ok (.iload_n 3, 1) := by decide +kernel
theorem dX8_partForPlace_21 : decode cX8_partForPlace 21 = .ok (.iload_n 1, 1) := by decide +kernel
theorem dX8_partForPlace_22 : decode cX8_partForPlace 22 = .ok (.if_icmp .ge 7, 3) := by decide +kernel
theorem dX8_partForPlace_25 : decode cX8_partForPlace 25 = .ok (.iload_n 3, 1) := by decide +kernel
theorem dX8_partForPlace_26 : decode cX8_partForPlace 26 = .ok (.goto 6, 3) := by decide +kernel
theorem dX8_partForPlace_29 : decode cX8_partForPlace 29 = .ok (.iload_n 3, 1) := by decide +kernel
theorem dX8_partForPlace_30 : decode cX8_partForPlace 30 = .ok (.iconst 1, 1) := by decide +kernel
theorem dX8_partForPlace_31 : decode cX8_partForPlace 31 = .ok (.iadd, 1) := by decide +kernel
theorem dX8_partForPlace_32 : decode cX8_partForPlace 32 = .ok (.ireturn, 1) := by decide +kernel
theorem dX8_needCarvedStay_0 : decode cX8_needCarvedStay 0 = .ok (.aload_n 0, 1) := by decide +kernel
theorem dX8_needCarvedStay_1 : decode cX8_needCarvedStay 1 = .ok (.getfield 56, 3) := by decide +kernel
theorem dX8_needCarvedStay_4 : decode cX8_needCarvedStay 4 = .ok (.aload_n 0, 1) := by decide +kernel
theorem dX8_needCarvedStay_5 : decode cX8_needCarvedStay 5 = .ok (.getfield 53, 3) := by decide +kernel
theorem dX8_needCarvedStay_8 : decode cX8_needCarvedStay 8 = .ok (.invokevirtual 315, 3) := by decide +kernel
theorem dX8_needCarvedStay_11 : decode cX8_needCarvedStay 11 = .ok (.aload_n 0, 1) := by decide +kernel
theorem dX8_needCarvedStay_12 : decode cX8_needCarvedStay 12 = .ok (.invokevirtual 329, 3) := by decide +kernel
theorem dX8_needCarvedStay_15 : decode cX8_needCarvedStay 15 = .ok (.ifCond .ne 11, 3) := by decide +kernel
theorem dX8_needCarvedStay_18 : decode cX8_needCarvedStay 18 = .ok (.new 81, 3) := by decide +kernel
theorem dX8_needCarvedStay_21 : decode cX8_needCarvedStay 21 = .ok (.dup, 1) := by decide +kernel
theorem dX8_needCarvedStay_22 : decode cX8_needCarvedStay 22 = .ok (.invokespecial 83, 3) := by decide +kernel
theorem dX8_needCarvedStay_25 : decode cX8_needCarvedStay 25 = .ok (.athrow, 1) := by decide +kernel
theorem dX8_needCarvedStay_26 : decode cX8_needCarvedStay 26 = .ok (.return_, 1) := by decide +kernel
theorem dX8_settle_0 : decode cX8_settle 0 = .ok (.aload_n 0, 1) := by decide +kernel
theorem dX8_settle_1 : decode cX8_settle 1 = .ok (.getfield 69, 3) := by decide +kernel
theorem dX8_settle_4 : decode cX8_settle 4 = .ok (.aload_n 0, 1) := by decide +kernel
theorem dX8_settle_5 : decode cX8_settle 5 = .ok (.getfield 42, 3) := by decide +kernel
theorem dX8_settle_8 : decode cX8_settle 8 = .ok (.invokevirtual 333, 3) := by decide +kernel
theorem dX8_settle_11 : decode cX8_settle 11 = .ok (.aload_n 0, 1) := by decide +kernel
theorem dX8_settle_12 : decode cX8_settle 12 = .ok (.getfield 42, 3) := by decide +kernel
theorem dX8_settle_15 : decode cX8_settle 15 = .ok (.aload_n 0, 1) := by decide +kernel
theorem dX8_settle_16 : decode cX8_settle 16 = .ok (.getfield 53, 3) := by decide +kernel
theorem dX8_settle_19 : decode cX8_settle 19 = .ok (.invokevirtual 241, 3) := by decide +kernel
theorem dX8_settle_22 : decode cX8_settle 22 = .ok (.aload_n 0, 1) := by decide +kernel
theorem dX8_settle_23 : decode cX8_settle 23 = .ok (.invokevirtual 297, 3) := by decide +kernel
theorem dX8_settle_26 : decode cX8_settle 26 = .ok (.return_, 1) := by decide +kernel
theorem dX8_layAnew_0 : decode cX8_layAnew 0 = .ok (.aload_n 0, 1) := by decide +kernel
theorem dX8_layAnew_1 : decode cX8_layAnew 1 = .ok (.getfield 49, 3) := by decide +kernel
theorem dX8_layAnew_4 : decode cX8_layAnew 4 = .ok (.aload_n 0, 1) := by decide +kernel
theorem dX8_layAnew_5 : decode cX8_layAnew 5 = .ok (.getfield 42, 3) := by decide +kernel
theorem dX8_layAnew_8 : decode cX8_layAnew 8 = .ok (.invokevirtual 315, 3) := by decide +kernel
theorem dX8_layAnew_11 : decode cX8_layAnew 11 = .ok (.aload_n 0, 1) := by decide +kernel
theorem dX8_layAnew_12 : decode cX8_layAnew 12 = .ok (.getfield 49, 3) := by decide +kernel
theorem dX8_layAnew_15 : decode cX8_layAnew 15 = .ok (.aload_n 0, 1) := by decide +kernel
theorem dX8_layAnew_16 : decode cX8_layAnew 16 = .ok (.getfield 42, 3) := by decide +kernel
theorem dX8_layAnew_19 : decode cX8_layAnew 19 = .ok (.invokevirtual 336, 3) := by decide +kernel
theorem dX8_layAnew_22 : decode cX8_layAnew 22 = .ok (.return_, 1) := by decide +kernel
theorem dX8_carvedStay_0 : decode cX8_carvedStay 0 = .ok (.aload_n 0, 1) := by decide +kernel
theorem dX8_carvedStay_1 : decode cX8_carvedStay 1 = .ok (.getfield 42, 3) := by decide +kernel
theorem dX8_carvedStay_4 : decode cX8_carvedStay 4 = .ok (.getfield 128, 3) := by decide +kernel
theorem dX8_carvedStay_7 : decode cX8_carvedStay 7 = .ok (.istore_n 1, 1) := by decide +kernel
theorem dX8_carvedStay_8 : decode cX8_carvedStay 8 = .ok (.iconst 0, 1) := by decide +kernel
theorem dX8_carvedStay_9 : decode cX8_carvedStay 9 = .ok (.istore_n 2, 1) := by decide +kernel
theorem dX8_carvedStay_10 : decode cX8_carvedStay 10 = .ok (.iload_n 2, 1) := by decide +kernel
theorem dX8_carvedStay_11 : decode cX8_carvedStay 11 = .ok (.aload_n 0, 1) := by decide +kernel
theorem dX8_carvedStay_12 : decode cX8_carvedStay 12 = .ok (.getfield 49, 3) := by decide +kernel
theorem dX8_carvedStay_15 : decode cX8_carvedStay 15 = .ok (.getfield 97, 3) := by decide +kernel
theorem dX8_carvedStay_18 : decode cX8_carvedStay 18 = .ok (.if_icmp .ge 37, 3) := by decide +kernel
theorem dX8_carvedStay_21 : decode cX8_carvedStay 21 = .ok (.iload_n 1, 1) := by decide +kernel
theorem dX8_carvedStay_22 : decode cX8_carvedStay 22 = .ok (.ifCond .le 33, 3) := by decide +kernel
theorem dX8_carvedStay_25 : decode cX8_carvedStay 25 = .ok (.aload_n 0, 1) := by decide +kernel
theorem dX8_carvedStay_26 : decode cX8_carvedStay 26 = .ok (.iload_n 2, 1) := by decide +kernel
theorem dX8_carvedStay_27 : decode cX8_carvedStay 27 = .ok (.invokevirtual 339, 3) := by decide +kernel
theorem dX8_carvedStay_30 : decode cX8_carvedStay 30 = .ok (.ifCond .ne 5, 3) := by decide +kernel
theorem dX8_carvedStay_33 : decode cX8_carvedStay 33 = .ok (.iconst 0, 1) := by decide +kernel
theorem dX8_carvedStay_34 : decode cX8_carvedStay 34 = .ok (.ireturn, 1) := by decide +kernel
theorem dX8_carvedStay_35 : decode cX8_carvedStay 35 = .ok (.iload_n 1, 1) := by decide +kernel
theorem dX8_carvedStay_36 : decode cX8_carvedStay 36 = .ok (.aload_n 0, 1) := by decide +kernel
theorem dX8_carvedStay_37 : decode cX8_carvedStay 37 = .ok (.getfield 42, 3) := by decide +kernel
theorem dX8_carvedStay_40 : decode cX8_carvedStay 40 = .ok (.getfield 186, 3) := by decide +kernel
theorem dX8_carvedStay_43 : decode cX8_carvedStay 43 = .ok (.iload_n 2, 1) := by decide +kernel
theorem dX8_carvedStay_44 : decode cX8_carvedStay 44 = .ok (.invokevirtual 160, 3) := by decide +kernel
theorem dX8_carvedStay_47 : decode cX8_carvedStay 47 = .ok (.isub, 1) := by decide +kernel
theorem dX8_carvedStay_48 : decode cX8_carvedStay 48 = .ok (.istore_n 1, 1) := by decide +kernel
theorem dX8_carvedStay_49 : decode cX8_carvedStay 49 = .ok (.iinc 2 1, 3) := by decide +kernel
theorem dX8_carvedStay_52 : decode cX8_carvedStay 52 = .ok (.goto (-42), 3) := by decide +kernel
theorem dX8_carvedStay_55 : decode cX8_carvedStay 55 = .ok (.iconst 1, 1) := by decide +kernel
theorem dX8_carvedStay_56 : decode cX8_carvedStay 56 = .ok (.ireturn, 1) := by decide +kernel
theorem dX8_sameOnTrial_0 : decode cX8_sameOnTrial 0 = .ok (.iload_n 1, 1) := by decide +kernel
theorem dX8_sameOnTrial_1 : decode cX8_sameOnTrial 1 = .ok (.aload_n 0, 1) := by decide +kernel
theorem dX8_sameOnTrial_2 : decode cX8_sameOnTrial 2 = .ok (.getfield 56, 3) := by decide +kernel
theorem dX8_sameOnTrial_5 : decode cX8_sameOnTrial 5 = .ok (.getfield 97, 3) := by decide +kernel
theorem dX8_sameOnTrial_8 : decode cX8_sameOnTrial 8 = .ok (.if_icmp .ge 72, 3) := by decide +kernel
theorem dX8_sameOnTrial_11 : decode cX8_sameOnTrial 11 = .ok (.aload_n 0, 1) := by decide +kernel
theorem dX8_sameOnTrial_12 : decode cX8_sameOnTrial 12 = .ok (.getfield 49, 3) := by decide +kernel
theorem dX8_sameOnTrial_15 : decode cX8_sameOnTrial 15 = .ok (.getfield 177, 3) := by decide +kernel
theorem dX8_sameOnTrial_18 : decode cX8_sameOnTrial 18 = .ok (.iload_n 1, 1) := by decide +kernel
theorem dX8_sameOnTrial_19 : decode cX8_sameOnTrial 19 = .ok (.invokevirtual 160, 3) := by decide +kernel
theorem dX8_sameOnTrial_22 : decode cX8_sameOnTrial 22 = .ok (.aload_n 0, 1) := by decide +kernel
theorem dX8_sameOnTrial_23 : decode cX8_sameOnTrial 23 = .ok (.getfield 56, 3) := by decide +kernel
theorem dX8_sameOnTrial_26 : decode cX8_sameOnTrial 26 = .ok (.getfield 177, 3) := by decide +kernel
theorem dX8_sameOnTrial_29 : decode cX8_sameOnTrial 29 = .ok (.iload_n 1, 1) := by decide +kernel
theorem dX8_sameOnTrial_30 : decode cX8_sameOnTrial 30 = .ok (.invokevirtual 160, 3) := by decide +kernel
theorem dX8_sameOnTrial_33 : decode cX8_sameOnTrial 33 = .ok (.if_icmp .ne 47, 3) := by decide +kernel
theorem dX8_sameOnTrial_36 : decode cX8_sameOnTrial 36 = .ok (.aload_n 0, 1) := by decide +kernel
theorem dX8_sameOnTrial_37 : decode cX8_sameOnTrial 37 = .ok (.getfield 49, 3) := by decide +kernel
theorem dX8_sameOnTrial_40 : decode cX8_sameOnTrial 40 = .ok (.getfield 189, 3) := by decide +kernel
theorem dX8_sameOnTrial_43 : decode cX8_sameOnTrial 43 = .ok (.iload_n 1, 1) := by decide +kernel
theorem dX8_sameOnTrial_44 : decode cX8_sameOnTrial 44 = .ok (.invokevirtual 160, 3) := by decide +kernel
theorem dX8_sameOnTrial_47 : decode cX8_sameOnTrial 47 = .ok (.aload_n 0, 1) := by decide +kernel
theorem dX8_sameOnTrial_48 : decode cX8_sameOnTrial 48 = .ok (.getfield 56, 3) := by decide +kernel
theorem dX8_sameOnTrial_51 : decode cX8_sameOnTrial 51 = .ok (.getfield 189, 3) := by decide +kernel
theorem dX8_sameOnTrial_54 : decode cX8_sameOnTrial 54 = .ok (.iload_n 1, 1) := by decide +kernel
theorem dX8_sameOnTrial_55 : decode cX8_sameOnTrial 55 = .ok (.invokevirtual 160, 3) := by decide +kernel
theorem dX8_sameOnTrial_58 : decode cX8_sameOnTrial 58 = .ok (.if_icmp .ne 22, 3) := by decide +kernel
theorem dX8_sameOnTrial_61 : decode cX8_sameOnTrial 61 = .ok (.aload_n 0, 1) := by decide +kernel
theorem dX8_sameOnTrial_62 : decode cX8_sameOnTrial 62 = .ok (.getfield 42, 3) := by decide +kernel
theorem dX8_sameOnTrial_65 : decode cX8_sameOnTrial 65 = .ok (.aload_n 0, 1) := by decide +kernel
theorem dX8_sameOnTrial_66 : decode cX8_sameOnTrial 66 = .ok (.getfield 53, 3) := by decide +kernel
theorem dX8_sameOnTrial_69 : decode cX8_sameOnTrial 69 = .ok (.iload_n 1, 1) := by decide +kernel
theorem dX8_sameOnTrial_70 : decode cX8_sameOnTrial 70 = .ok (.invokevirtual 343, 3) := by decide +kernel
theorem dX8_sameOnTrial_73 : decode cX8_sameOnTrial 73 = .ok (.ifCond .eq 7, 3) := by decide +kernel
theorem dX8_sameOnTrial_76 : decode cX8_sameOnTrial 76 = .ok (.iconst 1, 1) := by decide +kernel
theorem dX8_sameOnTrial_77 : decode cX8_sameOnTrial 77 = .ok (.goto 4, 3) := by decide +kernel
theorem dX8_sameOnTrial_80 : decode cX8_sameOnTrial 80 = .ok (.iconst 0, 1) := by decide +kernel
theorem dX8_sameOnTrial_81 : decode cX8_sameOnTrial 81 = .ok (.ireturn, 1) := by decide +kernel
theorem dX8_takeInputWords_0 : decode cX8_takeInputWords 0 = .ok (.aload_n 0, 1) := by decide +kernel
theorem dX8_takeInputWords_1 : decode cX8_takeInputWords 1 = .ok (.getfield 53, 3) := by decide +kernel
theorem dX8_takeInputWords_4 : decode cX8_takeInputWords 4 = .ok (.iload_n 1, 1) := by decide +kernel
theorem dX8_takeInputWords_5 : decode cX8_takeInputWords 5 = .ok (.invokevirtual 347, 3) := by decide +kernel
theorem dX8_takeInputWords_8 : decode cX8_takeInputWords 8 = .ok (.iconst 0, 1) := by decide +kernel
theorem dX8_takeInputWords_9 : decode cX8_takeInputWords 9 = .ok (.istore_n 2, 1) := by decide +kernel
theorem dX8_takeInputWords_10 : decode cX8_takeInputWords 10 = .ok (.aload_n 0, 1) := by decide +kernel
theorem dX8_takeInputWords_11 : decode cX8_takeInputWords 11 = .ok (.getfield 26, 3) := by decide +kernel
theorem dX8_takeInputWords_14 : decode cX8_takeInputWords 14 = .ok (.invokevirtual 350, 3) := by decide +kernel
theorem dX8_takeInputWords_17 : decode cX8_takeInputWords 17 = .ok (.iconst 0, 1) := by decide +kernel
theorem dX8_takeInputWords_18 : decode cX8_takeInputWords 18 = .ok (.istore_n 3, 1) := by decide +kernel
theorem dX8_takeInputWords_19 : decode cX8_takeInputWords 19 = .ok (.iload_n 3, 1) := by decide +kernel
theorem dX8_takeInputWords_20 : decode cX8_takeInputWords 20 = .ok (.sipush 500, 3) := by decide +kernel
theorem dX8_takeInputWords_23 : decode cX8_takeInputWords 23 = .ok (.if_icmp .ge 86, 3) := by decide +kernel
theorem dX8_takeInputWords_26 : decode cX8_takeInputWords 26 = .ok (.aload_n 0, 1) := by decide +kernel
theorem dX8_takeInputWords_27 : decode cX8_takeInputWords 27 = .ok (.getfield 26, 3) := by decide +kernel
theorem dX8_takeInputWords_30 : decode cX8_takeInputWords 30 = .ok (.getfield 353, 3) := by decide +kernel
theorem dX8_takeInputWords_33 : decode cX8_takeInputWords 33 = .ok (.ifCond .eq 76, 3) := by decide +kernel
theorem dX8_takeInputWords_36 : decode cX8_takeInputWords 36 = .ok (.aload_n 0, 1) := by decide +kernel
theorem dX8_takeInputWords_37 : decode cX8_takeInputWords 37 = .ok (.getfield 26, 3) := by decide +kernel
theorem dX8_takeInputWords_40 : decode cX8_takeInputWords 40 = .ok (.invokevirtual 356, 3) := by decide +kernel
theorem dX8_takeInputWords_43 : decode cX8_takeInputWords 43 = .ok (.ifCond .eq 20, 3) := by decide +kernel
theorem dX8_takeInputWords_46 : decode cX8_takeInputWords 46 = .ok (.aload_n 0, 1) := by decide +kernel
theorem dX8_takeInputWords_47 : decode cX8_takeInputWords 47 = .ok (.getfield 26, 3) := by decide +kernel
theorem dX8_takeInputWords_50 : decode cX8_takeInputWords 50 = .ok (.getfield 359, 3) := by decide +kernel
theorem dX8_takeInputWords_53 : decode cX8_takeInputWords 53 = .ok (.aload_n 0, 1) := by decide +kernel
theorem dX8_takeInputWords_54 : decode cX8_takeInputWords 54 = .ok (.getfield 42, 3) := by decide +kernel
theorem dX8_takeInputWords_57 : decode cX8_takeInputWords 57 = .ok (.getfield 106, 3) := by decide +kernel
theorem dX8_takeInputWords_60 : decode cX8_takeInputWords 60 = .ok (.if_icmp .le 5, 3) := by decide +kernel
theorem dX8_takeInputWords_63 : decode cX8_takeInputWords 63 = .ok (.iconst 0, 1) := by decide +kernel
theorem dX8_takeInputWords_64 : decode cX8_takeInputWords 64 = .ok (.ireturn, 1) := by decide +kernel
theorem dX8_takeInputWords_65 : decode cX8_takeInputWords 65 = .ok (.aload_n 0, 1) := by decide +kernel
theorem dX8_takeInputWords_66 : decode cX8_takeInputWords 66 = .ok (.getfield 53, 3) := by decide +kernel
theorem dX8_takeInputWords_69 : decode cX8_takeInputWords 69 = .ok (.aload_n 0, 1) := by decide +kernel
theorem dX8_takeInputWords_70 : decode cX8_takeInputWords 70 = .ok (.getfield 14, 3) := by decide +kernel
theorem dX8_takeInputWords_73 : decode cX8_takeInputWords 73 = .ok (.getfield 312, 3) := by decide +kernel
theorem dX8_takeInputWords_76 : decode cX8_takeInputWords 76 = .ok (.aload_n 0, 1) := by decide +kernel
theorem dX8_takeInputWords_77 : decode cX8_takeInputWords 77 = .ok (.getfield 26, 3) := by decide +kernel
theorem dX8_takeInputWords_80 : decode cX8_takeInputWords 80 = .ok (.getfield 360, 3) := by decide +kernel
theorem dX8_takeInputWords_83 : decode cX8_takeInputWords 83 = .ok (.aload_n 0, 1) := by decide +kernel
theorem dX8_takeInputWords_84 : decode cX8_takeInputWords 84 = .ok (.getfield 26, 3) := by decide +kernel
theorem dX8_takeInputWords_87 : decode cX8_takeInputWords 87 = .ok (.getfield 359, 3) := by decide +kernel
theorem dX8_takeInputWords_90 : decode cX8_takeInputWords 90 = .ok (.invokevirtual 363, 3) := by decide +kernel
theorem dX8_takeInputWords_93 : decode cX8_takeInputWords 93 = .ok (.iinc 2 1, 3) := by decide +kernel
theorem dX8_takeInputWords_96 : decode cX8_takeInputWords 96 = .ok (.aload_n 0, 1) := by decide +kernel
theorem dX8_takeInputWords_97 : decode cX8_takeInputWords 97 = .ok (.getfield 26, 3) := by decide +kernel
theorem dX8_takeInputWords_100 : decode cX8_takeInputWords 100 = .ok (.invokevirtual 367, 3) := by decide +kernel
theorem dX8_takeInputWords_103 : decode cX8_takeInputWords 103 = .ok (.iinc 3 1, 3) := by decide +kernel
theorem dX8_takeInputWords_106 : decode cX8_takeInputWords 106 = .ok (.goto (-87), 3) := by decide +kernel
theorem dX8_takeInputWords_109 : decode cX8_takeInputWords 109 = .ok (.iload_n 2, 1) := by decide +kernel
theorem dX8_takeInputWords_110 : decode cX8_takeInputWords 110 = .ok (.ireturn, 1) := by decide +kernel
theorem dX8_strokesOfWord_0 : decode cX8_strokesOfWord 0 = .ok (.iload_n 1, 1) := by decide +kernel
theorem dX8_strokesOfWord_1 : decode cX8_strokesOfWord 1 = .ok (.aload_n 0, 1) := by decide +kernel
theorem dX8_strokesOfWord_2 : decode cX8_strokesOfWord 2 = .ok (.getfield 49, 3) := by decide +kernel
theorem dX8_strokesOfWord_5 : decode cX8_strokesOfWord 5 = .ok (.getfield 97, 3) := by decide +kernel
theorem dX8_strokesOfWord_8 : decode cX8_strokesOfWord 8 = .ok (.if_icmp .lt 5, 3) := by decide +kernel
theorem dX8_strokesOfWord_11 : decode cX8_strokesOfWord 11 = .ok (.iconst 0, 1) := by decide +kernel
theorem dX8_strokesOfWord_12 : decode cX8_strokesOfWord 12 = .ok (.ireturn, 1) := by decide +kernel
theorem dX8_strokesOfWord_13 : decode cX8_strokesOfWord 13 = .ok (.aload_n 0, 1) := by decide +kernel
theorem dX8_strokesOfWord_14 : decode cX8_strokesOfWord 14 = .ok (.getfield 42, 3) := by decide +kernel
theorem dX8_strokesOfWord_17 : decode cX8_strokesOfWord 17 = .ok (.iload_n 1, 1) := by decide +kernel
theorem dX8_strokesOfWord_18 : decode cX8_strokesOfWord 18 = .ok (.invokevirtual 370, 3) := by decide +kernel
theorem dX8_strokesOfWord_21 : decode cX8_strokesOfWord 21 = .ok (.istore_n 2, 1) := by decide +kernel
theorem dX8_strokesOfWord_22 : decode cX8_strokesOfWord 22 = .ok (.aload_n 0, 1) := by decide +kernel
theorem dX8_strokesOfWord_23 : decode cX8_strokesOfWord 23 = .ok (.getfield 49, 3) := by decide +kernel
theorem dX8_strokesOfWord_26 : decode cX8_strokesOfWord 26 = .ok (.iload_n 2, 1) := by decide +kernel
theorem dX8_strokesOfWord_27 : decode cX8_strokesOfWord 27 = .ok (.iload_n 2, 1) := by decide +kernel
theorem dX8_strokesOfWord_28 : decode cX8_strokesOfWord 28 = .ok (.aload_n 0, 1) := by decide +kernel
theorem dX8_strokesOfWord_29 : decode cX8_strokesOfWord 29 = .ok (.getfield 42, 3) := by decide +kernel
theorem dX8_strokesOfWord_32 : decode cX8_strokesOfWord 32 = .ok (.getfield 186, 3) := by decide +kernel
theorem dX8_strokesOfWord_35 : decode cX8_strokesOfWord 35 = .ok (.iload_n 1, 1) := by decide +kernel
theorem dX8_strokesOfWord_36 : decode cX8_strokesOfWord 36 = .ok (.invokevirtual 160, 3) := by decide +kernel
theorem dX8_strokesOfWord_39 : decode cX8_strokesOfWord 39 = .ok (.iadd, 1) := by decide +kernel
theorem dX8_strokesOfWord_40 : decode cX8_strokesOfWord 40 = .ok (.invokevirtual 219, 3) := by decide +kernel
theorem dX8_strokesOfWord_43 : decode cX8_strokesOfWord 43 = .ok (.ireturn, 1) := by decide +kernel
theorem dX8_carvedOfWord_0 : decode cX8_carvedOfWord 0 = .ok (.aload_n 0, 1) := by decide +kernel
theorem dX8_carvedOfWord_1 : decode cX8_carvedOfWord 1 = .ok (.getfield 42, 3) := by decide +kernel
theorem dX8_carvedOfWord_4 : decode cX8_carvedOfWord 4 = .ok (.getfield 128, 3) := by decide +kernel
theorem dX8_carvedOfWord_7 : decode cX8_carvedOfWord 7 = .ok (.aload_n 0, 1) := by decide +kernel
theorem dX8_carvedOfWord_8 : decode cX8_carvedOfWord 8 = .ok (.getfield 42, 3) := by decide +kernel
theorem dX8_carvedOfWord_11 : decode cX8_carvedOfWord 11 = .ok (.iload_n 1, 1) := by decide +kernel
theorem dX8_carvedOfWord_12 : decode cX8_carvedOfWord 12 = .ok (.invokevirtual 370, 3) := by decide +kernel
theorem dX8_carvedOfWord_15 : decode cX8_carvedOfWord 15 = .ok (.isub, 1) := by decide +kernel
theorem dX8_carvedOfWord_16 : decode cX8_carvedOfWord 16 = .ok (.istore_n 2, 1) := by decide +kernel
theorem dX8_carvedOfWord_17 : decode cX8_carvedOfWord 17 = .ok (.iconst 0, 1) := by decide +kernel
theorem dX8_carvedOfWord_18 : decode cX8_carvedOfWord 18 = .ok (.iload_n 2, 1) := by decide +kernel
theorem dX8_carvedOfWord_19 : decode cX8_carvedOfWord 19 = .ok (.aload_n 0, 1) := by decide +kernel
theorem dX8_carvedOfWord_20 : decode cX8_carvedOfWord 20 = .ok (.getfield 42, 3) := by decide +kernel
theorem dX8_carvedOfWord_23 : decode cX8_carvedOfWord 23 = .ok (.getfield 186, 3) := by decide +kernel
theorem dX8_carvedOfWord_26 : decode cX8_carvedOfWord 26 = .ok (.iload_n 1, 1) := by decide +kernel
theorem dX8_carvedOfWord_27 : decode cX8_carvedOfWord 27 = .ok (.invokevirtual 160, 3) := by decide +kernel
theorem dX8_carvedOfWord_30 : decode cX8_carvedOfWord 30 = .ok (.invokestatic 165, 3) := by decide +kernel
theorem dX8_carvedOfWord_33 : decode cX8_carvedOfWord 33 = .ok (.invokestatic 171, 3) := by decide +kernel
theorem dX8_carvedOfWord_36 : decode cX8_carvedOfWord 36 = .ok (.ireturn, 1) := by decide +kernel
theorem dJ5_init_d00df_0 : decode cJ5_init_d00df 0 = .ok (.aload_n 0, 1) := by decide +kernel
theorem dJ5_init_d00df_1 : decode cJ5_init_d00df 1 = .ok (.invokespecial 3, 3) := by decide +kernel
theorem dJ5_init_d00df_4 : decode cJ5_init_d00df 4 = .ok (.getstatic 18, 3) := by decide +kernel
theorem dJ5_init_d00df_7 : decode cJ5_init_d00df 7 = .ok (.ifCond .eq 18, 3) := by decide +kernel
theorem dJ5_init_d00df_10 : decode cJ5_init_d00df 10 = .ok (.aload_n 0, 1) := by decide +kernel
theorem dJ5_init_d00df_11 : decode cJ5_init_d00df 11 = .ok (.iload_n 1, 1) := by decide +kernel
theorem dJ5_init_d00df_12 : decode cJ5_init_d00df 12 = .ok (.newarray .byte, 2) := by decide +kernel
theorem dJ5_init_d00df_14 : decode cJ5_init_d00df 14 = .ok (.putfield 15, 3) := by decide +kernel
theorem dJ5_init_d00df_17 : decode cJ5_init_d00df 17 = .ok (.aload_n 0, 1) := by decide +kernel
theorem dJ5_init_d00df_18 : decode cJ5_init_d00df 18 = .ok (.iconst 0, 1) := by decide +kernel
theorem dJ5_init_d00df_19 : decode cJ5_init_d00df 19 = .ok (.putfield 22, 3) := by decide +kernel
theorem dJ5_init_d00df_22 : decode cJ5_init_d00df 22 = .ok (.goto 16, 3) := by decide +kernel
theorem dJ5_init_d00df_25 : decode cJ5_init_d00df 25 = .ok (.aload_n 0, 1) := by decide +kernel
theorem dJ5_init_d00df_26 : decode cJ5_init_d00df 26 = .ok (.iload_n 1, 1) := by decide +kernel
theorem dJ5_init_d00df_27 : decode cJ5_init_d00df 27 = .ok (.invokestatic 26, 3) := by decide +kernel
theorem dJ5_init_d00df_30 : decode cJ5_init_d00df 30 = .ok (.putfield 15, 3) := by decide +kernel
theorem dJ5_init_d00df_33 : decode cJ5_init_d00df 33 = .ok (.aload_n 0, 1) := by decide +kernel
theorem dJ5_init_d00df_34 : decode cJ5_init_d00df 34 = .ok (.iconst 1, 1) := by decide +kernel
theorem dJ5_init_d00df_35 : decode cJ5_init_d00df 35 = .ok (.putfield 22, 3) := by decide +kernel
theorem dJ5_init_d00df_38 : decode cJ5_init_d00df 38 = .ok (.return_, 1) := by decide +kernel
theorem dJ5_init_a7421_0 : decode cJ5_init_a7421 0 = .ok (.aload_n 0, 1) := by decide +kernel
theorem dJ5_init_a7421_1 : decode cJ5_init_a7421 1 = .ok (.invokespecial 3, 3) := by decide +kernel
theorem dJ5_init_a7421_4 : decode cJ5_init_a7421 4 = .ok (.aload_n 1, 1) := by decide +kernel
theorem dJ5_init_a7421_5 : decode cJ5_init_a7421 5 = .ok (.invokevirtual 32, 3) := by decide +kernel
theorem dJ5_init_a7421_8 : decode cJ5_init_a7421 8 = .ok (.istore_n 2, 1) := by decide +kernel
theorem dJ5_init_a7421_9 : decode cJ5_init_a7421 9 = .ok (.iload_n 2, 1) := by decide +kernel
theorem dJ5_init_a7421_10 : decode cJ5_init_a7421 10 = .ok (.ldc 38, 2) := by decide +kernel
theorem dJ5_init_a7421_12 : decode cJ5_init_a7421 12 = .ok (.if_icmp .ge 10, 3) := by decide +kernel
theorem dJ5_init_a7421_15 : decode cJ5_init_a7421 15 = .ok (.iload_n 2, 1) := by decide +kernel
theorem dJ5_init_a7421_16 : decode cJ5_init_a7421 16 = .ok (.bipush 16, 2) := by decide +kernel
theorem dJ5_init_a7421_18 : decode cJ5_init_a7421 18 = .ok (.iadd, 1) := by decide +kernel
theorem dJ5_init_a7421_19 : decode cJ5_init_a7421 19 = .ok (.goto 5, 3) := by decide +kernel
theorem dJ5_init_a7421_22 : decode cJ5_init_a7421 22 = .ok (.ldc 39, 2) := by decide +kernel
theorem dJ5_init_a7421_24 : decode cJ5_init_a7421 24 = .ok (.istore_n 3, 1) := by decide +kernel
theorem dJ5_init_a7421_25 : decode cJ5_init_a7421 25 = .ok (.aload_n 1, 1) := by decide +kernel
theorem dJ5_init_a7421_26 : decode cJ5_init_a7421 26 = .ok (.invokevirtual 40, 3) := by decide +kernel
theorem dJ5_init_a7421_29 : decode cJ5_init_a7421 29 = .ok (.istore 4, 2) := by decide +kernel
theorem dJ5_init_a7421_31 : decode cJ5_init_a7421 31 = .ok (.aload_n 0, 1) := by decide +kernel
theorem dJ5_init_a7421_32 : decode cJ5_init_a7421 32 = .ok (.iload 4, 2) := by decide +kernel
theorem dJ5_init_a7421_34 : decode cJ5_init_a7421 34 = .ok (.putfield 22, 3) := by decide +kernel
theorem dJ5_init_a7421_37 : decode cJ5_init_a7421 37 = .ok (.aload_n 0, 1) := by decide +kernel
theorem dJ5_init_a7421_38 : decode cJ5_init_a7421 38 = .ok (.iload 4, 2) := by decide +kernel
theorem dJ5_init_a7421_40 : decode cJ5_init_a7421 40 = .ok (.ifCond .ne 9, 3) := by decide +kernel
theorem dJ5_init_a7421_43 : decode cJ5_init_a7421 43 = .ok (.iload_n 3, 1) := by decide +kernel
theorem dJ5_init_a7421_44 : decode cJ5_init_a7421 44 = .ok (.newarray .byte, 2) := by decide +kernel
theorem dJ5_init_a7421_46 : decode cJ5_init_a7421 46 = .ok (.goto 7, 3) := by decide +kernel
theorem dJ5_init_a7421_49 : decode cJ5_init_a7421 49 = .ok (.iload_n 3, 1) := by decide +kernel
theorem dJ5_init_a7421_50 : decode cJ5_init_a7421 50 = .ok (.invokestatic 26, 3) := by decide +kernel
theorem dJ5_init_a7421_53 : decode cJ5_init_a7421 53 = .ok (.putfield 15, 3) := by decide +kernel
theorem dJ5_init_a7421_56 : decode cJ5_init_a7421 56 = .ok (.aload_n 0, 1) := by decide +kernel
theorem dJ5_init_a7421_57 : decode cJ5_init_a7421 57 = .ok (.aload_n 1, 1) := by decide +kernel
theorem dJ5_init_a7421_58 : decode cJ5_init_a7421 58 = .ok (.invokevirtual 43, 3) := by decide +kernel
theorem dJ5_init_a7421_61 : decode cJ5_init_a7421 61 = .ok (.pop, 1) := by decide +kernel
theorem dJ5_init_a7421_62 : decode cJ5_init_a7421 62 = .ok (.return_, 1) := by decide +kernel
theorem dJ5_length_8abf5_0 : decode cJ5_length_8abf5 0 = .ok (.aload_n 0, 1) := by decide +kernel
theorem dJ5_length_8abf5_1 : decode cJ5_length_8abf5 1 = .ok (.getfield 79, 3) := by decide +kernel
theorem dJ5_length_8abf5_4 : decode cJ5_length_8abf5 4 = .ok (.ireturn, 1) := by decide +kernel
theorem dJ5_ensureCapacityInternal_d00df_0 : decode cJ5_ensureCapacityInternal_d00df 0 = .ok (.aload_n 0, 1) := by decide +kernel
theorem dJ5_ensureCapacityInternal_d00df_1 : decode cJ5_ensureCapacityInternal_d00df 1 = .ok (.getfield 15, 3) := by decide +kernel
theorem dJ5_ensureCapacityInternal_d00df_4 : decode cJ5_ensureCapacityInternal_d00df 4 = .ok (.arraylength, 1) := by decide +kernel
theorem dJ5_ensureCapacityInternal_d00df_5 : decode cJ5_ensureCapacityInternal_d00df 5 = .ok (.aload_n 0, 1) := by decide +kernel
theorem dJ5_ensureCapacityInternal_d00df_6 : decode cJ5_ensureCapacityInternal_d00df 6 = .ok (.getfield 22, 3) := by decide +kernel
theorem dJ5_ensureCapacityInternal_d00df_9 : decode cJ5_ensureCapacityInternal_d00df 9 = .ok (.ishr, 1) := by decide +kernel
theorem dJ5_ensureCapacityInternal_d00df_10 : decode cJ5_ensureCapacityInternal_d00df 10 = .ok (.istore_n 2, 1) := by decide +kernel
theorem dJ5_ensureCapacityInternal_d00df_11 : decode cJ5_ensureCapacityInternal_d00df 11 = .ok (.iload_n 1, 1) := by decide +kernel
theorem dJ5_ensureCapacityInternal_d00df_12 : decode cJ5_ensureCapacityInternal_d00df 12 = .ok (.iload_n 2, 1) := by decide +kernel
theorem dJ5_ensureCapacityInternal_d00df_13 : decode cJ5_ensureCapacityInternal_d00df 13 = .ok (.isub, 1) := by decide +kernel
theorem dJ5_ensureCapacityInternal_d00df_14 : decode cJ5_ensureCapacityInternal_d00df 14 = .ok (.ifCond .le 24, 3) := by decide +kernel
theorem dJ5_ensureCapacityInternal_d00df_17 : decode cJ5_ensureCapacityInternal_d00df 17 = .ok (.aload_n 0, 1) := by decide +kernel
theorem dJ5_ensureCapacityInternal_d00df_18 : decode cJ5_ensureCapacityInternal_d00df 18 = .ok (.aload_n 0, 1) := by decide +kernel
theorem dJ5_ensureCapacityInternal_d00df_19 : decode cJ5_ensureCapacityInternal_d00df 19 = .ok (.getfield 15, 3) := by decide +kernel
theorem dJ5_ensureCapacityInternal_d00df_22 : decode cJ5_ensureCapacityInternal_d00df 22 = .ok (.aload_n 0, 1) := by decide +kernel
theorem dJ5_ensureCapacityInternal_d00df_23 : decode cJ5_ensureCapacityInternal_d00df 23 = .ok (.iload_n 1, 1) := by decide +kernel
theorem dJ5_ensureCapacityInternal_d00df_24 : decode cJ5_ensureCapacityInternal_d00df 24 = .ok (.invokevirtual 104, 3) := by decide +kernel
theorem dJ5_ensureCapacityInternal_d00df_27 : decode cJ5_ensureCapacityInternal_d00df 27 = .ok (.aload_n 0, 1) := by decide +kernel
theorem dJ5_ensureCapacityInternal_d00df_28 : decode cJ5_ensureCapacityInternal_d00df 28 = .ok (.getfield 22, 3) := by decide +kernel
theorem dJ5_ensureCapacityInternal_d00df_31 : decode cJ5_ensureCapacityInternal_d00df 31 = .ok (.ishl, 1) := by decide +kernel
theorem dJ5_ensureCapacityInternal_d00df_32 : decode cJ5_ensureCapacityInternal_d00df 32 = .ok (.invokestatic 108, 3) := by decide +kernel
theorem dJ5_ensureCapacityInternal_d00df_35 : decode cJ5_ensureCapacityInternal_d00df 35 = .ok (.putfield 15, 3) := by decide +kernel
theorem dJ5_ensureCapacityInternal_d00df_38 : decode cJ5_ensureCapacityInternal_d00df 38 = .ok (.return_, 1) := by decide +kernel
theorem dJ5_newCapacity_0f7a4_0 : decode cJ5_newCapacity_0f7a4 0 = .ok (.aload_n 0, 1) := by decide +kernel
theorem dJ5_newCapacity_0f7a4_1 : decode cJ5_newCapacity_0f7a4 1 = .ok (.getfield 15, 3) := by decide +kernel
theorem dJ5_newCapacity_0f7a4_4 : decode cJ5_newCapacity_0f7a4 4 = .ok (.arraylength, 1) := by decide +kernel
theorem dJ5_newCapacity_0f7a4_5 : decode cJ5_newCapacity_0f7a4 5 = .ok (.istore_n 2, 1) := by decide +kernel
theorem dJ5_newCapacity_0f7a4_6 : decode cJ5_newCapacity_0f7a4 6 = .ok (.iload_n 1, 1) := by decide +kernel
theorem dJ5_newCapacity_0f7a4_7 : decode cJ5_newCapacity_0f7a4 7 = .ok (.aload_n 0, 1) := by decide +kernel
theorem dJ5_newCapacity_0f7a4_8 : decode cJ5_newCapacity_0f7a4 8 = .ok (.getfield 22, 3) := by decide +kernel
theorem dJ5_newCapacity_0f7a4_11 : decode cJ5_newCapacity_0f7a4 11 = .ok (.ishl, 1) := by decide +kernel
theorem dJ5_newCapacity_0f7a4_12 : decode cJ5_newCapacity_0f7a4 12 = .ok (.istore_n 3, 1) := by decide +kernel
theorem dJ5_newCapacity_0f7a4_13 : decode cJ5_newCapacity_0f7a4 13 = .ok (.iload_n 3, 1) := by decide +kernel
theorem dJ5_newCapacity_0f7a4_14 : decode cJ5_newCapacity_0f7a4 14 = .ok (.iload_n 2, 1) := by decide +kernel
theorem dJ5_newCapacity_0f7a4_15 : decode cJ5_newCapacity_0f7a4 15 = .ok (.isub, 1) := by decide +kernel
theorem dJ5_newCapacity_0f7a4_16 : decode cJ5_newCapacity_0f7a4 16 = .ok (.istore 4, 2) := by decide +kernel
theorem dJ5_newCapacity_0f7a4_18 : decode cJ5_newCapacity_0f7a4 18 = .ok (.iload_n 2, 1) := by decide +kernel
theorem dJ5_newCapacity_0f7a4_19 : decode cJ5_newCapacity_0f7a4 19 = .ok (.iload 4, 2) := by decide +kernel
theorem dJ5_newCapacity_0f7a4_21 : decode cJ5_newCapacity_0f7a4 21 = .ok (.iload_n 2, 1) := by decide +kernel
theorem dJ5_newCapacity_0f7a4_22 : decode cJ5_newCapacity_0f7a4 22 = .ok (.iconst 2, 1) := by decide +kernel
theorem dJ5_newCapacity_0f7a4_23 : decode cJ5_newCapacity_0f7a4 23 = .ok (.aload_n 0, 1) := by decide +kernel
theorem dJ5_newCapacity_0f7a4_24 : decode cJ5_newCapacity_0f7a4 24 = .ok (.getfield 22, 3) := by decide +kernel
theorem dJ5_newCapacity_0f7a4_27 : decode cJ5_newCapacity_0f7a4 27 = .ok (.ishl, 1) := by decide +kernel
theorem dJ5_newCapacity_0f7a4_28 : decode cJ5_newCapacity_0f7a4 28 = .ok (.iadd, 1) := by decide +kernel
theorem dJ5_newCapacity_0f7a4_29 : decode cJ5_newCapacity_0f7a4 29 = .ok (.invokestatic 114, 3) := by decide +kernel
theorem dJ5_newCapacity_0f7a4_32 : decode cJ5_newCapacity_0f7a4 32 = .ok (.istore 5, 2) := by decide +kernel
theorem dJ5_newCapacity_0f7a4_34 : decode cJ5_newCapacity_0f7a4 34 = .ok (.iload 5, 2) := by decide +kernel
theorem dJ5_newCapacity_0f7a4_36 : decode cJ5_newCapacity_0f7a4 36 = .ok (.ldc 39, 2) := by decide +kernel
theorem dJ5_newCapacity_0f7a4_38 : decode cJ5_newCapacity_0f7a4 38 = .ok (.if_icmp .ne 13, 3) := by decide +kernel
theorem dJ5_newCapacity_0f7a4_41 : decode cJ5_newCapacity_0f7a4 41 = .ok (.new 120, 3) := by decide +kernel
theorem dJ5_newCapacity_0f7a4_44 : decode cJ5_newCapacity_0f7a4 44 = .ok (.dup, 1) := by decide +kernel
theorem dJ5_newCapacity_0f7a4_45 : decode cJ5_newCapacity_0f7a4 45 = .ok (.ldc 122, 2) := by decide +kernel
theorem dJ5_newCapacity_0f7a4_47 : decode cJ5_newCapacity_0f7a4 47 = .ok (.invokespecial 124, 3) := by decide +kernel
theorem dJ5_newCapacity_0f7a4_50 : decode cJ5_newCapacity_0f7a4 50 = .ok (.athrow, 1) := by decide +kernel
theorem dJ5_newCapacity_0f7a4_51 : decode cJ5_newCapacity_0f7a4 51 = .ok (.iload 5, 2) := by decide +kernel
theorem dJ5_newCapacity_0f7a4_53 : decode cJ5_newCapacity_0f7a4 53 = .ok (.aload_n 0, 1) := by decide +kernel
theorem dJ5_newCapacity_0f7a4_54 : decode cJ5_newCapacity_0f7a4 54 = .ok (.getfield 22, 3) := by decide +kernel
theorem dJ5_newCapacity_0f7a4_57 : decode cJ5_newCapacity_0f7a4 57 = .ok (.ishr, 1) := by decide +kernel
theorem dJ5_newCapacity_0f7a4_58 : decode cJ5_newCapacity_0f7a4 58 = .ok (.ireturn, 1) := by decide +kernel
theorem dJ5_inflate_da8c8_0 : decode cJ5_inflate_da8c8 0 = .ok (.aload_n 0, 1) := by decide +kernel
theorem dJ5_inflate_da8c8_1 : decode cJ5_inflate_da8c8 1 = .ok (.invokevirtual 83, 3) := by decide +kernel
theorem dJ5_inflate_da8c8_4 : decode cJ5_inflate_da8c8 4 = .ok (.ifCond .ne 4, 3) := by decide +kernel
theorem dJ5_inflate_da8c8_7 : decode cJ5_inflate_da8c8 7 = .ok (.return_, 1) := by decide +kernel
theorem dJ5_inflate_da8c8_8 : decode cJ5_inflate_da8c8 8 = .ok (.aload_n 0, 1) := by decide +kernel
theorem dJ5_inflate_da8c8_9 : decode cJ5_inflate_da8c8 9 = .ok (.getfield 15, 3) := by decide +kernel
theorem dJ5_inflate_da8c8_12 : decode cJ5_inflate_da8c8 12 = .ok (.arraylength, 1) := by decide +kernel
theorem dJ5_inflate_da8c8_13 : decode cJ5_inflate_da8c8 13 = .ok (.invokestatic 26, 3) := by decide +kernel
theorem dJ5_inflate_da8c8_16 : decode cJ5_inflate_da8c8 16 = .ok (.astore_n 1, 1) := by decide +kernel
theorem dJ5_inflate_da8c8_17 : decode cJ5_inflate_da8c8 17 = .ok (.aload_n 0, 1) := by decide +kernel
theorem dJ5_inflate_da8c8_18 : decode cJ5_inflate_da8c8 18 = .ok (.getfield 15, 3) := by decide +kernel
theorem dJ5_inflate_da8c8_21 : decode cJ5_inflate_da8c8 21 = .ok (.iconst 0, 1) := by decide +kernel
theorem dJ5_inflate_da8c8_22 : decode cJ5_inflate_da8c8 22 = .ok (.aload_n 1, 1) := by decide +kernel
theorem dJ5_inflate_da8c8_23 : decode cJ5_inflate_da8c8 23 = .ok (.iconst 0, 1) := by decide +kernel
theorem dJ5_inflate_da8c8_24 : decode cJ5_inflate_da8c8 24 = .ok (.aload_n 0, 1) := by decide +kernel
theorem dJ5_inflate_da8c8_25 : decode cJ5_inflate_da8c8 25 = .ok (.getfield 79, 3) := by decide +kernel
theorem dJ5_inflate_da8c8_28 : decode cJ5_inflate_da8c8 28 = .ok (.invokestatic 125, 3) := by decide +kernel
theorem dJ5_inflate_da8c8_31 : decode cJ5_inflate_da8c8 31 = .ok (.aload_n 0, 1) := by decide +kernel
theorem dJ5_inflate_da8c8_32 : decode cJ5_inflate_da8c8 32 = .ok (.aload_n 1, 1) := by decide +kernel
theorem dJ5_inflate_da8c8_33 : decode cJ5_inflate_da8c8 33 = .ok (.putfield 15, 3) := by decide +kernel
theorem dJ5_inflate_da8c8_36 : decode cJ5_inflate_da8c8 36 = .ok (.aload_n 0, 1) := by decide +kernel
theorem dJ5_inflate_da8c8_37 : decode cJ5_inflate_da8c8 37 = .ok (.iconst 1, 1) := by decide +kernel
theorem dJ5_inflate_da8c8_38 : decode cJ5_inflate_da8c8 38 = .ok (.putfield 22, 3) := by decide +kernel
theorem dJ5_inflate_da8c8_41 : decode cJ5_inflate_da8c8 41 = .ok (.return_, 1) := by decide +kernel
theorem dJ5_append_cf1ce_0 : decode cJ5_append_cf1ce 0 = .ok (.aload_n 1, 1) := by decide +kernel
theorem dJ5_append_cf1ce_1 : decode cJ5_append_cf1ce 1 = .ok (.ifnonnull 8, 3) := by decide +kernel
theorem dJ5_append_cf1ce_4 : decode cJ5_append_cf1ce 4 = .ok (.aload_n 0, 1) := by decide +kernel
theorem dJ5_append_cf1ce_5 : decode cJ5_append_cf1ce 5 = .ok (.invokevirtual 204, 3) := by decide +kernel
theorem dJ5_append_cf1ce_8 : decode cJ5_append_cf1ce 8 = .ok (.areturn, 1) := by decide +kernel
theorem dJ5_append_cf1ce_9 : decode cJ5_append_cf1ce 9 = .ok (.aload_n 1, 1) := by decide +kernel
theorem dJ5_append_cf1ce_10 : decode cJ5_append_cf1ce 10 = .ok (.invokevirtual 32, 3) := by decide +kernel
theorem dJ5_append_cf1ce_13 : decode cJ5_append_cf1ce 13 = .ok (.istore_n 2, 1) := by decide +kernel
theorem dJ5_append_cf1ce_14 : decode cJ5_append_cf1ce 14 = .ok (.aload_n 0, 1) := by decide +kernel
theorem dJ5_append_cf1ce_15 : decode cJ5_append_cf1ce 15 = .ok (.aload_n 0, 1) := by decide +kernel
theorem dJ5_append_cf1ce_16 : decode cJ5_append_cf1ce 16 = .ok (.getfield 79, 3) := by decide +kernel
theorem dJ5_append_cf1ce_19 : decode cJ5_append_cf1ce 19 = .ok (.iload_n 2, 1) := by decide +kernel
theorem dJ5_append_cf1ce_20 : decode cJ5_append_cf1ce 20 = .ok (.iadd, 1) := by decide +kernel
theorem dJ5_append_cf1ce_21 : decode cJ5_append_cf1ce 21 = .ok (.invokevirtual 100, 3) := by decide +kernel
theorem dJ5_append_cf1ce_24 : decode cJ5_append_cf1ce 24 = .ok (.aload_n 0, 1) := by decide +kernel
theorem dJ5_append_cf1ce_25 : decode cJ5_append_cf1ce 25 = .ok (.aload_n 0, 1) := by decide +kernel
theorem dJ5_append_cf1ce_26 : decode cJ5_append_cf1ce 26 = .ok (.getfield 79, 3) := by decide +kernel
theorem dJ5_append_cf1ce_29 : decode cJ5_append_cf1ce 29 = .ok (.aload_n 1, 1) := by decide +kernel
theorem dJ5_append_cf1ce_30 : decode cJ5_append_cf1ce 30 = .ok (.invokevirtual 208, 3) := by decide +kernel
theorem dJ5_append_cf1ce_33 : decode cJ5_append_cf1ce 33 = .ok (.aload_n 0, 1) := by decide +kernel
theorem dJ5_append_cf1ce_34 : decode cJ5_append_cf1ce 34 = .ok (.dup, 1) := by decide +kernel
theorem dJ5_append_cf1ce_35 : decode cJ5_append_cf1ce 35 = .ok (.getfield 79, 3) := by decide +kernel
theorem dJ5_append_cf1ce_38 : decode cJ5_append_cf1ce 38 = .ok (.iload_n 2, 1) := by decide +kernel
theorem dJ5_append_cf1ce_39 : decode cJ5_append_cf1ce 39 = .ok (.iadd, 1) := by decide +kernel
theorem dJ5_append_cf1ce_40 : decode cJ5_append_cf1ce 40 = .ok (.putfield 79, 3) := by decide +kernel
theorem dJ5_append_cf1ce_43 : decode cJ5_append_cf1ce 43 = .ok (.aload_n 0, 1) := by decide +kernel
theorem dJ5_append_cf1ce_44 : decode cJ5_append_cf1ce 44 = .ok (.areturn, 1) := by decide +kernel
theorem dJ5_appendNull_278bc_0 : decode cJ5_appendNull_278bc 0 = .ok (.aload_n 0, 1) := by decide +kernel
theorem dJ5_appendNull_278bc_1 : decode cJ5_appendNull_278bc 1 = .ok (.aload_n 0, 1) := by decide +kernel
theorem dJ5_appendNull_278bc_2 : decode cJ5_appendNull_278bc 2 = .ok (.getfield 79, 3) := by decide +kernel
theorem dJ5_appendNull_278bc_5 : decode cJ5_appendNull_278bc 5 = .ok (.iconst 4, 1) := by decide +kernel
theorem dJ5_appendNull_278bc_6 : decode cJ5_appendNull_278bc 6 = .ok (.iadd, 1) := by decide +kernel
theorem dJ5_appendNull_278bc_7 : decode cJ5_appendNull_278bc 7 = .ok (.invokevirtual 100, 3) := by decide +kernel
theorem dJ5_appendNull_278bc_10 : decode cJ5_appendNull_278bc 10 = .ok (.aload_n 0, 1) := by decide +kernel
theorem dJ5_appendNull_278bc_11 : decode cJ5_appendNull_278bc 11 = .ok (.getfield 79, 3) := by decide +kernel
theorem dJ5_appendNull_278bc_14 : decode cJ5_appendNull_278bc 14 = .ok (.istore_n 1, 1) := by decide +kernel
theorem dJ5_appendNull_278bc_15 : decode cJ5_appendNull_278bc 15 = .ok (.aload_n 0, 1) := by decide +kernel
theorem dJ5_appendNull_278bc_16 : decode cJ5_appendNull_278bc 16 = .ok (.getfield 15, 3) := by decide +kernel
theorem dJ5_appendNull_278bc_19 : decode cJ5_appendNull_278bc 19 = .ok (.astore_n 2, 1) := by decide +kernel
theorem dJ5_appendNull_278bc_20 : decode cJ5_appendNull_278bc 20 = .ok (.aload_n 0, 1) := by decide +kernel
theorem dJ5_appendNull_278bc_21 : decode cJ5_appendNull_278bc 21 = .ok (.invokevirtual 83, 3) := by decide +kernel
theorem dJ5_appendNull_278bc_24 : decode cJ5_appendNull_278bc 24 = .ok (.ifCond .eq 38, 3) := by decide +kernel
theorem dJ5_appendNull_278bc_27 : decode cJ5_appendNull_278bc 27 = .ok (.aload_n 2, 1) := by decide +kernel
theorem dJ5_appendNull_278bc_28 : decode cJ5_appendNull_278bc 28 = .ok (.iload_n 1, 1) := by decide +kernel
theorem dJ5_appendNull_278bc_29 : decode cJ5_appendNull_278bc 29 = .ok (.iinc 1 1, 3) := by decide +kernel
theorem dJ5_appendNull_278bc_32 : decode cJ5_appendNull_278bc 32 = .ok (.bipush 110, 2) := by decide +kernel
theorem dJ5_appendNull_278bc_34 : decode cJ5_appendNull_278bc 34 = .ok (.bastore, 1) := by decide +kernel
theorem dJ5_appendNull_278bc_35 : decode cJ5_appendNull_278bc 35 = .ok (.aload_n 2, 1) := by decide +kernel
theorem dJ5_appendNull_278bc_36 : decode cJ5_appendNull_278bc 36 = .ok (.iload_n 1, 1) := by decide +kernel
theorem dJ5_appendNull_278bc_37 : decode cJ5_appendNull_278bc 37 = .ok (.iinc 1 1, 3) := by decide +kernel
theorem dJ5_appendNull_278bc_40 : decode cJ5_appendNull_278bc 40 = .ok (.bipush 117, 2) := by decide +kernel
theorem dJ5_appendNull_278bc_42 : decode cJ5_appendNull_278bc 42 = .ok (.bastore, 1) := by decide +kernel
theorem dJ5_appendNull_278bc_43 : decode cJ5_appendNull_278bc 43 = .ok (.aload_n 2, 1) := by decide +kernel
theorem dJ5_appendNull_278bc_44 : decode cJ5_appendNull_278bc 44 = .ok (.iload_n 1, 1) := by decide +kernel
theorem dJ5_appendNull_278bc_45 : decode cJ5_appendNull_278bc 45 = .ok (.iinc 1 1, 3) := by decide +kernel
theorem dJ5_appendNull_278bc_48 : decode cJ5_appendNull_278bc 48 = .ok (.bipush 108, 2) := by decide +kernel
theorem dJ5_appendNull_278bc_50 : decode cJ5_appendNull_278bc 50 = .ok (.bastore, 1) := by decide +kernel
theorem dJ5_appendNull_278bc_51 : decode cJ5_appendNull_278bc 51 = .ok (.aload_n 2, 1) := by decide +kernel
theorem dJ5_appendNull_278bc_52 : decode cJ5_appendNull_278bc 52 = .ok (.iload_n 1, 1) := by decide +kernel
theorem dJ5_appendNull_278bc_53 : decode cJ5_appendNull_278bc 53 = .ok (.iinc 1 1, 3) := by decide +kernel
theorem dJ5_appendNull_278bc_56 : decode cJ5_appendNull_278bc 56 = .ok (.bipush 108, 2) := by decide +kernel
theorem dJ5_appendNull_278bc_58 : decode cJ5_appendNull_278bc 58 = .ok (.bastore, 1) := by decide +kernel
theorem dJ5_appendNull_278bc_59 : decode cJ5_appendNull_278bc 59 = .ok (.goto 17, 3) := by decide +kernel
theorem dJ5_appendNull_278bc_62 : decode cJ5_appendNull_278bc 62 = .ok (.aload_n 2, 1) := by decide +kernel
theorem dJ5_appendNull_278bc_63 : decode cJ5_appendNull_278bc 63 = .ok (.iload_n 1, 1) := by decide +kernel
theorem dJ5_appendNull_278bc_64 : decode cJ5_appendNull_278bc 64 = .ok (.bipush 110, 2) := by decide +kernel
theorem dJ5_appendNull_278bc_66 : decode cJ5_appendNull_278bc 66 = .ok (.bipush 117, 2) := by decide +kernel
theorem dJ5_appendNull_278bc_68 : decode cJ5_appendNull_278bc 68 = .ok (.bipush 108, 2) := by decide +kernel
theorem dJ5_appendNull_278bc_70 : decode cJ5_appendNull_278bc 70 = .ok (.bipush 108, 2) := by decide +kernel
theorem dJ5_appendNull_278bc_72 : decode cJ5_appendNull_278bc 72 = .ok (.invokestatic 226, 3) := by decide +kernel
theorem dJ5_appendNull_278bc_75 : decode cJ5_appendNull_278bc 75 = .ok (.istore_n 1, 1) := by decide +kernel
theorem dJ5_appendNull_278bc_76 : decode cJ5_appendNull_278bc 76 = .ok (.aload_n 0, 1) := by decide +kernel
theorem dJ5_appendNull_278bc_77 : decode cJ5_appendNull_278bc 77 = .ok (.iload_n 1, 1) := by decide +kernel
theorem dJ5_appendNull_278bc_78 : decode cJ5_appendNull_278bc 78 = .ok (.putfield 79, 3) := by decide +kernel
theorem dJ5_appendNull_278bc_81 : decode cJ5_appendNull_278bc 81 = .ok (.aload_n 0, 1) := by decide +kernel
theorem dJ5_appendNull_278bc_82 : decode cJ5_appendNull_278bc 82 = .ok (.areturn, 1) := by decide +kernel
theorem dJ5_append_3fe6f_0 : decode cJ5_append_3fe6f 0 = .ok (.aload_n 0, 1) := by decide +kernel
theorem dJ5_append_3fe6f_1 : decode cJ5_append_3fe6f 1 = .ok (.aload_n 0, 1) := by decide +kernel
theorem dJ5_append_3fe6f_2 : decode cJ5_append_3fe6f 2 = .ok (.getfield 79, 3) := by decide +kernel
theorem dJ5_append_3fe6f_5 : decode cJ5_append_3fe6f 5 = .ok (.iconst 1, 1) := by decide +kernel
theorem dJ5_append_3fe6f_6 : decode cJ5_append_3fe6f 6 = .ok (.iadd, 1) := by decide +kernel
theorem dJ5_append_3fe6f_7 : decode cJ5_append_3fe6f 7 = .ok (.invokevirtual 100, 3) := by decide +kernel
theorem dJ5_append_3fe6f_10 : decode cJ5_append_3fe6f 10 = .ok (.aload_n 0, 1) := by decide +kernel
theorem dJ5_append_3fe6f_11 : decode cJ5_append_3fe6f 11 = .ok (.invokevirtual 83, 3) := by decide +kernel
theorem dJ5_append_3fe6f_14 : decode cJ5_append_3fe6f 14 = .ok (.ifCond .eq 31, 3) := by decide +kernel
theorem dJ5_append_3fe6f_17 : decode cJ5_append_3fe6f 17 = .ok (.iload_n 1, 1) := by decide +kernel
theorem dJ5_append_3fe6f_18 : decode cJ5_append_3fe6f 18 = .ok (.invokestatic 191, 3) := by decide +kernel
theorem dJ5_append_3fe6f_21 : decode cJ5_append_3fe6f 21 = .ok (.ifCond .eq 24, 3) := by decide +kernel
theorem dJ5_append_3fe6f_24 : decode cJ5_append_3fe6f 24 = .ok (.aload_n 0, 1) := by decide +kernel
theorem dJ5_append_3fe6f_25 : decode cJ5_append_3fe6f 25 = .ok (.getfield 15, 3) := by decide +kernel
theorem dJ5_append_3fe6f_28 : decode cJ5_append_3fe6f 28 = .ok (.aload_n 0, 1) := by decide +kernel
theorem dJ5_append_3fe6f_29 : decode cJ5_append_3fe6f 29 = .ok (.dup, 1) := by decide +kernel
theorem dJ5_append_3fe6f_30 : decode cJ5_append_3fe6f 30 = .ok (.getfield 79, 3) := by decide +kernel
theorem dJ5_append_3fe6f_33 : decode cJ5_append_3fe6f 33 = .ok (.dup_x1, 1) := by decide +kernel
theorem dJ5_append_3fe6f_34 : decode cJ5_append_3fe6f 34 = .ok (.iconst 1, 1) := by decide +kernel
theorem dJ5_append_3fe6f_35 : decode cJ5_append_3fe6f 35 = .ok (.iadd, 1) := by decide +kernel
theorem dJ5_append_3fe6f_36 : decode cJ5_append_3fe6f 36 = .ok (.putfield 79, 3) := by decide +kernel
theorem dJ5_append_3fe6f_39 : decode cJ5_append_3fe6f 39 = .ok (.iload_n 1, 1) := by decide +kernel
theorem dJ5_append_3fe6f_40 : decode cJ5_append_3fe6f 40 = .ok (.i2b, 1) := by decide +kernel
theorem dJ5_append_3fe6f_41 : decode cJ5_append_3fe6f 41 = .ok (.bastore, 1) := by decide +kernel
theorem dJ5_append_3fe6f_42 : decode cJ5_append_3fe6f 42 = .ok (.goto 33, 3) := by decide +kernel
theorem dJ5_append_3fe6f_45 : decode cJ5_append_3fe6f 45 = .ok (.aload_n 0, 1) := by decide +kernel
theorem dJ5_append_3fe6f_46 : decode cJ5_append_3fe6f 46 = .ok (.invokevirtual 83, 3) := by decide +kernel
theorem dJ5_append_3fe6f_49 : decode cJ5_append_3fe6f 49 = .ok (.ifCond .eq 7, 3) := by decide +kernel
theorem dJ5_append_3fe6f_52 : decode cJ5_append_3fe6f 52 = .ok (.aload_n 0, 1) := by decide +kernel
theorem dJ5_append_3fe6f_53 : decode cJ5_append_3fe6f 53 = .ok (.invokevirtual 195, 3) := by decide +kernel
theorem dJ5_append_3fe6f_56 : decode cJ5_append_3fe6f 56 = .ok (.aload_n 0, 1) := by decide +kernel
theorem dJ5_append_3fe6f_57 : decode cJ5_append_3fe6f 57 = .ok (.getfield 15, 3) := by decide +kernel
theorem dJ5_append_3fe6f_60 : decode cJ5_append_3fe6f 60 = .ok (.aload_n 0, 1) := by decide +kernel
theorem dJ5_append_3fe6f_61 : decode cJ5_append_3fe6f 61 = .ok (.dup, 1) := by decide +kernel
theorem dJ5_append_3fe6f_62 : decode cJ5_append_3fe6f 62 = .ok (.getfield 79, 3) := by decide +kernel
theorem dJ5_append_3fe6f_65 : decode cJ5_append_3fe6f 65 = .ok (.dup_x1, 1) := by decide +kernel
theorem dJ5_append_3fe6f_66 : decode cJ5_append_3fe6f 66 = .ok (.iconst 1, 1) := by decide +kernel
theorem dJ5_append_3fe6f_67 : decode cJ5_append_3fe6f 67 = .ok (.iadd, 1) := by decide +kernel
theorem dJ5_append_3fe6f_68 : decode cJ5_append_3fe6f 68 = .ok (.putfield 79, 3) := by decide +kernel
theorem dJ5_append_3fe6f_71 : decode cJ5_append_3fe6f 71 = .ok (.iload_n 1, 1) := by decide +kernel
theorem dJ5_append_3fe6f_72 : decode cJ5_append_3fe6f 72 = .ok (.invokestatic 197, 3) := by decide +kernel
theorem dJ5_append_3fe6f_75 : decode cJ5_append_3fe6f 75 = .ok (.aload_n 0, 1) := by decide +kernel
theorem dJ5_append_3fe6f_76 : decode cJ5_append_3fe6f 76 = .ok (.areturn, 1) := by decide +kernel
theorem dJ5_append_c97b9_0 : decode cJ5_append_c97b9 0 = .ok (.aload_n 0, 1) := by decide +kernel
theorem dJ5_append_c97b9_1 : decode cJ5_append_c97b9 1 = .ok (.getfield 79, 3) := by decide +kernel
theorem dJ5_append_c97b9_4 : decode cJ5_append_c97b9 4 = .ok (.istore_n 2, 1) := by decide +kernel
theorem dJ5_append_c97b9_5 : decode cJ5_append_c97b9 5 = .ok (.iload_n 2, 1) := by decide +kernel
theorem dJ5_append_c97b9_6 : decode cJ5_append_c97b9 6 = .ok (.iload_n 1, 1) := by decide +kernel
theorem dJ5_append_c97b9_7 : decode cJ5_append_c97b9 7 = .ok (.invokestatic 245, 3) := by decide +kernel
theorem dJ5_append_c97b9_10 : decode cJ5_append_c97b9 10 = .ok (.iadd, 1) := by decide +kernel
theorem dJ5_append_c97b9_11 : decode cJ5_append_c97b9 11 = .ok (.istore_n 3, 1) := by decide +kernel
theorem dJ5_append_c97b9_12 : decode cJ5_append_c97b9 12 = .ok (.aload_n 0, 1) := by decide +kernel
theorem dJ5_append_c97b9_13 : decode cJ5_append_c97b9 13 = .ok (.iload_n 3, 1) := by decide +kernel
theorem dJ5_append_c97b9_14 : decode cJ5_append_c97b9 14 = .ok (.invokevirtual 100, 3) := by decide +kernel
theorem dJ5_append_c97b9_17 : decode cJ5_append_c97b9 17 = .ok (.aload_n 0, 1) := by decide +kernel
theorem dJ5_append_c97b9_18 : decode cJ5_append_c97b9 18 = .ok (.invokevirtual 83, 3) := by decide +kernel
theorem dJ5_append_c97b9_21 : decode cJ5_append_c97b9 21 = .ok (.ifCond .eq 16, 3) := by decide +kernel
theorem dJ5_append_c97b9_24 : decode cJ5_append_c97b9 24 = .ok (.iload_n 1, 1) := by decide +kernel
theorem dJ5_append_c97b9_25 : decode cJ5_append_c97b9 25 = .ok (.iload_n 3, 1) := by decide +kernel
theorem dJ5_append_c97b9_26 : decode cJ5_append_c97b9 26 = .ok (.aload_n 0, 1) := by decide +kernel
theorem dJ5_append_c97b9_27 : decode cJ5_append_c97b9 27 = .ok (.getfield 15, 3) := by decide +kernel
theorem dJ5_append_c97b9_30 : decode cJ5_append_c97b9 30 = .ok (.invokestatic 248, 3) := by decide +kernel
theorem dJ5_append_c97b9_33 : decode cJ5_append_c97b9 33 = .ok (.pop, 1) := by decide +kernel
theorem dJ5_append_c97b9_34 : decode cJ5_append_c97b9 34 = .ok (.goto 14, 3) := by decide +kernel
theorem dJ5_append_c97b9_37 : decode cJ5_append_c97b9 37 = .ok (.iload_n 1, 1) := by decide +kernel
theorem dJ5_append_c97b9_38 : decode cJ5_append_c97b9 38 = .ok (.iload_n 2, 1) := by decide +kernel
theorem dJ5_append_c97b9_39 : decode cJ5_append_c97b9 39 = .ok (.iload_n 3, 1) := by decide +kernel
theorem dJ5_append_c97b9_40 : decode cJ5_append_c97b9 40 = .ok (.aload_n 0, 1) := by decide +kernel
theorem dJ5_append_c97b9_41 : decode cJ5_append_c97b9 41 = .ok (.getfield 15, 3) := by decide +kernel
theorem dJ5_append_c97b9_44 : decode cJ5_append_c97b9 44 = .ok (.invokestatic 251, 3) := by decide +kernel
theorem dJ5_append_c97b9_47 : decode cJ5_append_c97b9 47 = .ok (.pop, 1) := by decide +kernel
theorem dJ5_append_c97b9_48 : decode cJ5_append_c97b9 48 = .ok (.aload_n 0, 1) := by decide +kernel
theorem dJ5_append_c97b9_49 : decode cJ5_append_c97b9 49 = .ok (.iload_n 3, 1) := by decide +kernel
theorem dJ5_append_c97b9_50 : decode cJ5_append_c97b9 50 = .ok (.putfield 79, 3) := by decide +kernel
theorem dJ5_append_c97b9_53 : decode cJ5_append_c97b9 53 = .ok (.aload_n 0, 1) := by decide +kernel
theorem dJ5_append_c97b9_54 : decode cJ5_append_c97b9 54 = .ok (.areturn, 1) := by decide +kernel
theorem dJ5_getValue_6d5f1_0 : decode cJ5_getValue_6d5f1 0 = .ok (.aload_n 0, 1) := by decide +kernel
theorem dJ5_getValue_6d5f1_1 : decode cJ5_getValue_6d5f1 1 = .ok (.getfield 15, 3) := by decide +kernel
theorem dJ5_getValue_6d5f1_4 : decode cJ5_getValue_6d5f1 4 = .ok (.areturn, 1) := by decide +kernel
theorem dJ5_isLatin1_aae02_0 : decode cJ5_isLatin1_aae02 0 = .ok (.getstatic 18, 3) := by decide +kernel
theorem dJ5_isLatin1_aae02_3 : decode cJ5_isLatin1_aae02 3 = .ok (.ifCond .eq 14, 3) := by decide +kernel
theorem dJ5_isLatin1_aae02_6 : decode cJ5_isLatin1_aae02 6 = .ok (.aload_n 0, 1) := by decide +kernel
theorem dJ5_isLatin1_aae02_7 : decode cJ5_isLatin1_aae02 7 = .ok (.getfield 22, 3) := by decide +kernel
theorem dJ5_isLatin1_aae02_10 : decode cJ5_isLatin1_aae02 10 = .ok (.ifCond .ne 7, 3) := by decide +kernel
theorem dJ5_isLatin1_aae02_13 : decode cJ5_isLatin1_aae02 13 = .ok (.iconst 1, 1) := by decide +kernel
theorem dJ5_isLatin1_aae02_14 : decode cJ5_isLatin1_aae02 14 = .ok (.goto 4, 3) := by decide +kernel
theorem dJ5_isLatin1_aae02_17 : decode cJ5_isLatin1_aae02 17 = .ok (.iconst 0, 1) := by decide +kernel
theorem dJ5_isLatin1_aae02_18 : decode cJ5_isLatin1_aae02 18 = .ok (.ireturn, 1) := by decide +kernel
theorem dJ5_inflateIfNeededFor_a7421_0 : decode cJ5_inflateIfNeededFor_a7421 0 = .ok (.getstatic 18, 3) := by decide +kernel
theorem dJ5_inflateIfNeededFor_a7421_3 : decode cJ5_inflateIfNeededFor_a7421 3 = .ok (.ifCond .eq 18, 3) := by decide +kernel
theorem dJ5_inflateIfNeededFor_a7421_6 : decode cJ5_inflateIfNeededFor_a7421 6 = .ok (.aload_n 0, 1) := by decide +kernel
theorem dJ5_inflateIfNeededFor_a7421_7 : decode cJ5_inflateIfNeededFor_a7421 7 = .ok (.getfield 22, 3) := by decide +kernel
theorem dJ5_inflateIfNeededFor_a7421_10 : decode cJ5_inflateIfNeededFor_a7421 10 = .ok (.aload_n 1, 1) := by decide +kernel
theorem dJ5_inflateIfNeededFor_a7421_11 : decode cJ5_inflateIfNeededFor_a7421 11 = .ok (.invokevirtual 40, 3) := by decide +kernel
theorem dJ5_inflateIfNeededFor_a7421_14 : decode cJ5_inflateIfNeededFor_a7421 14 = .ok (.if_icmp .eq 7, 3) := by decide +kernel
theorem dJ5_inflateIfNeededFor_a7421_17 : decode cJ5_inflateIfNeededFor_a7421 17 = .ok (.aload_n 0, 1) := by decide +kernel
theorem dJ5_inflateIfNeededFor_a7421_18 : decode cJ5_inflateIfNeededFor_a7421 18 = .ok (.invokevirtual 195, 3) := by decide +kernel
theorem dJ5_inflateIfNeededFor_a7421_21 : decode cJ5_inflateIfNeededFor_a7421 21 = .ok (.return_, 1) := by decide +kernel
theorem dJ5_putStringAt_47b60_0 : decode cJ5_putStringAt_47b60 0 = .ok (.aload_n 0, 1) := by decide +kernel
theorem dJ5_putStringAt_47b60_1 : decode cJ5_putStringAt_47b60 1 = .ok (.aload_n 2, 1) := by decide +kernel
theorem dJ5_putStringAt_47b60_2 : decode cJ5_putStringAt_47b60 2 = .ok (.invokevirtual 397, 3) := by decide +kernel
theorem dJ5_putStringAt_47b60_5 : decode cJ5_putStringAt_47b60 5 = .ok (.aload_n 2, 1) := by decide +kernel
theorem dJ5_putStringAt_47b60_6 : decode cJ5_putStringAt_47b60 6 = .ok (.aload_n 0, 1) := by decide +kernel
theorem dJ5_putStringAt_47b60_7 : decode cJ5_putStringAt_47b60 7 = .ok (.getfield 15, 3) := by decide +kernel
theorem dJ5_putStringAt_47b60_10 : decode cJ5_putStringAt_47b60 10 = .ok (.iload_n 1, 1) := by decide +kernel
theorem dJ5_putStringAt_47b60_11 : decode cJ5_putStringAt_47b60 11 = .ok (.aload_n 0, 1) := by decide +kernel
theorem dJ5_putStringAt_47b60_12 : decode cJ5_putStringAt_47b60 12 = .ok (.getfield 22, 3) := by decide +kernel
theorem dJ5_putStringAt_47b60_15 : decode cJ5_putStringAt_47b60 15 = .ok (.invokevirtual 399, 3) := by decide +kernel
theorem dJ5_putStringAt_47b60_18 : decode cJ5_putStringAt_47b60 18 = .ok (.return_, 1) := by decide +kernel
theorem dJ6_getChars_ba4f3_0 : decode cJ6_getChars_ba4f3 0 = .ok (.iload_n 1, 1) := by decide +kernel
theorem dJ6_getChars_ba4f3_1 : decode cJ6_getChars_ba4f3 1 = .ok (.istore 5, 2) := by decide +kernel
theorem dJ6_getChars_ba4f3_3 : decode cJ6_getChars_ba4f3 3 = .ok (.iload_n 0, 1) := by decide +kernel
theorem dJ6_getChars_ba4f3_4 : decode cJ6_getChars_ba4f3 4 = .ok (.ifCond .ge 7, 3) := by decide +kernel
theorem dJ6_getChars_ba4f3_7 : decode cJ6_getChars_ba4f3 7 = .ok (.iconst 1, 1) := by decide +kernel
theorem dJ6_getChars_ba4f3_8 : decode cJ6_getChars_ba4f3 8 = .ok (.goto 4, 3) := by decide +kernel
theorem dJ6_getChars_ba4f3_11 : decode cJ6_getChars_ba4f3 11 = .ok (.iconst 0, 1) := by decide +kernel
theorem dJ6_getChars_ba4f3_12 : decode cJ6_getChars_ba4f3 12 = .ok (.istore 6, 2) := by decide +kernel
theorem dJ6_getChars_ba4f3_14 : decode cJ6_getChars_ba4f3 14 = .ok (.iload 6, 2) := by decide +kernel
theorem dJ6_getChars_ba4f3_16 : decode cJ6_getChars_ba4f3 16 = .ok (.ifCond .ne 6, 3) := by decide +kernel
theorem dJ6_getChars_ba4f3_19 : decode cJ6_getChars_ba4f3 19 = .ok (.iload_n 0, 1) := by decide +kernel
theorem dJ6_getChars_ba4f3_20 : decode cJ6_getChars_ba4f3 20 = .ok (.ineg, 1) := by decide +kernel
theorem dJ6_getChars_ba4f3_21 : decode cJ6_getChars_ba4f3 21 = .ok (.istore_n 0, 1) := by decide +kernel
theorem dJ6_getChars_ba4f3_22 : decode cJ6_getChars_ba4f3 22 = .ok (.iload_n 0, 1) := by decide +kernel
theorem dJ6_getChars_ba4f3_23 : decode cJ6_getChars_ba4f3 23 = .ok (.bipush (-100), 2) := by decide +kernel
theorem dJ6_getChars_ba4f3_25 : decode cJ6_getChars_ba4f3 25 = .ok (.if_icmp .gt 47, 3) := by decide +kernel
theorem dJ6_getChars_ba4f3_28 : decode cJ6_getChars_ba4f3 28 = .ok (.iload_n 0, 1) := by decide +kernel
theorem dJ6_getChars_ba4f3_29 : decode cJ6_getChars_ba4f3 29 = .ok (.bipush 100, 2) := by decide +kernel
theorem dJ6_getChars_ba4f3_31 : decode cJ6_getChars_ba4f3 31 = .ok (.idiv, 1) := by decide +kernel
theorem dJ6_getChars_ba4f3_32 : decode cJ6_getChars_ba4f3 32 = .ok (.istore_n 3, 1) := by decide +kernel
theorem dJ6_getChars_ba4f3_33 : decode cJ6_getChars_ba4f3 33 = .ok (.iload_n 3, 1) := by decide +kernel
theorem dJ6_getChars_ba4f3_34 : decode cJ6_getChars_ba4f3 34 = .ok (.bipush 100, 2) := by decide +kernel
theorem dJ6_getChars_ba4f3_36 : decode cJ6_getChars_ba4f3 36 = .ok (.imul, 1) := by decide +kernel
theorem dJ6_getChars_ba4f3_37 : decode cJ6_getChars_ba4f3 37 = .ok (.iload_n 0, 1) := by decide +kernel
theorem dJ6_getChars_ba4f3_38 : decode cJ6_getChars_ba4f3 38 = .ok (.isub, 1) := by decide +kernel
theorem dJ6_getChars_ba4f3_39 : decode cJ6_getChars_ba4f3 39 = .ok (.istore 4, 2) := by decide +kernel
theorem dJ6_getChars_ba4f3_41 : decode cJ6_getChars_ba4f3 41 = .ok (.iload_n 3, 1) := by decide +kernel
theorem dJ6_getChars_ba4f3_42 : decode cJ6_getChars_ba4f3 42 = .ok (.istore_n 0, 1) := by decide +kernel
theorem dJ6_getChars_ba4f3_43 : decode cJ6_getChars_ba4f3 43 = .ok (.aload_n 2, 1) := by decide +kernel
theorem dJ6_getChars_ba4f3_44 : decode cJ6_getChars_ba4f3 44 = .ok (.iinc 5 (-1), 3) := by decide +kernel
theorem dJ6_getChars_ba4f3_47 : decode cJ6_getChars_ba4f3 47 = .ok (.iload 5, 2) := by decide +kernel
theorem dJ6_getChars_ba4f3_49 : decode cJ6_getChars_ba4f3 49 = .ok (.getstatic 83, 3) := by decide +kernel
theorem dJ6_getChars_ba4f3_52 : decode cJ6_getChars_ba4f3 52 = .ok (.iload 4, 2) := by decide +kernel
theorem dJ6_getChars_ba4f3_54 : decode cJ6_getChars_ba4f3 54 = .ok (.baload, 1) := by decide +kernel
theorem dJ6_getChars_ba4f3_55 : decode cJ6_getChars_ba4f3 55 = .ok (.bastore, 1) := by decide +kernel
theorem dJ6_getChars_ba4f3_56 : decode cJ6_getChars_ba4f3 56 = .ok (.aload_n 2, 1) := by decide +kernel
theorem dJ6_getChars_ba4f3_57 : decode cJ6_getChars_ba4f3 57 = .ok (.iinc 5 (-1), 3) := by decide +kernel
theorem dJ6_getChars_ba4f3_60 : decode cJ6_getChars_ba4f3 60 = .ok (.iload 5, 2) := by decide +kernel
theorem dJ6_getChars_ba4f3_62 : decode cJ6_getChars_ba4f3 62 = .ok (.getstatic 87, 3) := by decide +kernel
theorem dJ6_getChars_ba4f3_65 : decode cJ6_getChars_ba4f3 65 = .ok (.iload 4, 2) := by decide +kernel
theorem dJ6_getChars_ba4f3_67 : decode cJ6_getChars_ba4f3 67 = .ok (.baload, 1) := by decide +kernel
theorem dJ6_getChars_ba4f3_68 : decode cJ6_getChars_ba4f3 68 = .ok (.bastore, 1) := by decide +kernel
theorem dJ6_getChars_ba4f3_69 : decode cJ6_getChars_ba4f3 69 = .ok (.goto (-47), 3) := by decide +kernel
theorem dJ6_getChars_ba4f3_72 : decode cJ6_getChars_ba4f3 72 = .ok (.aload_n 2, 1) := by decide +kernel
theorem dJ6_getChars_ba4f3_73 : decode cJ6_getChars_ba4f3 73 = .ok (.iinc 5 (-1), 3) := by decide +kernel
theorem dJ6_getChars_ba4f3_76 : decode cJ6_getChars_ba4f3 76 = .ok (.iload 5, 2) := by decide +kernel
theorem dJ6_getChars_ba4f3_78 : decode cJ6_getChars_ba4f3 78 = .ok (.getstatic 83, 3) := by decide +kernel
theorem dJ6_getChars_ba4f3_81 : decode cJ6_getChars_ba4f3 81 = .ok (.iload_n 0, 1) := by decide +kernel
theorem dJ6_getChars_ba4f3_82 : decode cJ6_getChars_ba4f3 82 = .ok (.ineg, 1) := by decide +kernel
theorem dJ6_getChars_ba4f3_83 : decode cJ6_getChars_ba4f3 83 = .ok (.baload, 1) := by decide +kernel
theorem dJ6_getChars_ba4f3_84 : decode cJ6_getChars_ba4f3 84 = .ok (.bastore, 1) := by decide +kernel
theorem dJ6_getChars_ba4f3_85 : decode cJ6_getChars_ba4f3 85 = .ok (.iload_n 0, 1) := by decide +kernel
theorem dJ6_getChars_ba4f3_86 : decode cJ6_getChars_ba4f3 86 = .ok (.bipush (-9), 2) := by decide +kernel
theorem dJ6_getChars_ba4f3_88 : decode cJ6_getChars_ba4f3 88 = .ok (.if_icmp .ge 16, 3) := by decide +kernel
theorem dJ6_getChars_ba4f3_91 : decode cJ6_getChars_ba4f3 91 = .ok (.aload_n 2, 1) := by decide +kernel
theorem dJ6_getChars_ba4f3_92 : decode cJ6_getChars_ba4f3 92 = .ok (.iinc 5 (-1), 3) := by decide +kernel
theorem dJ6_getChars_ba4f3_95 : decode cJ6_getChars_ba4f3 95 = .ok (.iload 5, 2) := by decide +kernel
theorem dJ6_getChars_ba4f3_97 : decode cJ6_getChars_ba4f3 97 = .ok (.getstatic 87, 3) := by decide +kernel
theorem dJ6_getChars_ba4f3_100 : decode cJ6_getChars_ba4f3 100 = .ok (.iload_n 0, 1) := by decide +kernel
theorem dJ6_getChars_ba4f3_101 : decode cJ6_getChars_ba4f3 101 = .ok (.ineg, 1) := by decide +kernel
theorem dJ6_getChars_ba4f3_102 : decode cJ6_getChars_ba4f3 102 = .ok (.baload, 1) := by decide +kernel
theorem dJ6_getChars_ba4f3_103 : decode cJ6_getChars_ba4f3 103 = .ok (.bastore, 1) := by decide +kernel
theorem dJ6_getChars_ba4f3_104 : decode cJ6_getChars_ba4f3 104 = .ok (.iload 6, 2) := by decide +kernel
theorem dJ6_getChars_ba4f3_106 : decode cJ6_getChars_ba4f3 106 = .ok (.ifCond .eq 12, 3) := by decide +kernel
theorem dJ6_getChars_ba4f3_109 : decode cJ6_getChars_ba4f3 109 = .ok (.aload_n 2, 1) := by decide +kernel
theorem dJ6_getChars_ba4f3_110 : decode cJ6_getChars_ba4f3 110 = .ok (.iinc 5 (-1), 3) := by decide +kernel
theorem dJ6_getChars_ba4f3_113 : decode cJ6_getChars_ba4f3 113 = .ok (.iload 5, 2) := by decide +kernel
theorem dJ6_getChars_ba4f3_115 : decode cJ6_getChars_ba4f3 115 = .ok (.bipush 45, 2) := by decide +kernel
theorem dJ6_getChars_ba4f3_117 : decode cJ6_getChars_ba4f3 117 = .ok (.bastore, 1) := by decide +kernel
theorem dJ6_getChars_ba4f3_118 : decode cJ6_getChars_ba4f3 118 = .ok (.iload 5, 2) := by decide +kernel
theorem dJ6_getChars_ba4f3_120 : decode cJ6_getChars_ba4f3 120 = .ok (.ireturn, 1) := by decide +kernel
theorem dJ6_stringSize_0f7a4_0 : decode cJ6_stringSize_0f7a4 0 = .ok (.iconst 1, 1) := by decide +kernel
theorem dJ6_stringSize_0f7a4_1 : decode cJ6_stringSize_0f7a4 1 = .ok (.istore_n 1, 1) := by decide +kernel
theorem dJ6_stringSize_0f7a4_2 : decode cJ6_stringSize_0f7a4 2 = .ok (.iload_n 0, 1) := by decide +kernel
theorem dJ6_stringSize_0f7a4_3 : decode cJ6_stringSize_0f7a4 3 = .ok (.ifCond .lt 8, 3) := by decide +kernel
theorem dJ6_stringSize_0f7a4_6 : decode cJ6_stringSize_0f7a4 6 = .ok (.iconst 0, 1) := by decide +kernel
theorem dJ6_stringSize_0f7a4_7 : decode cJ6_stringSize_0f7a4 7 = .ok (.istore_n 1, 1) := by decide +kernel
theorem dJ6_stringSize_0f7a4_8 : decode cJ6_stringSize_0f7a4 8 = .ok (.iload_n 0, 1) := by decide +kernel
theorem dJ6_stringSize_0f7a4_9 : decode cJ6_stringSize_0f7a4 9 = .ok (.ineg, 1) := by decide +kernel
theorem dJ6_stringSize_0f7a4_10 : decode cJ6_stringSize_0f7a4 10 = .ok (.istore_n 0, 1) := by decide +kernel
theorem dJ6_stringSize_0f7a4_11 : decode cJ6_stringSize_0f7a4 11 = .ok (.bipush (-10), 2) := by decide +kernel
theorem dJ6_stringSize_0f7a4_13 : decode cJ6_stringSize_0f7a4 13 = .ok (.istore_n 2, 1) := by decide +kernel
theorem dJ6_stringSize_0f7a4_14 : decode cJ6_stringSize_0f7a4 14 = .ok (.iconst 1, 1) := by decide +kernel
theorem dJ6_stringSize_0f7a4_15 : decode cJ6_stringSize_0f7a4 15 = .ok (.istore_n 3, 1) := by decide +kernel
theorem dJ6_stringSize_0f7a4_16 : decode cJ6_stringSize_0f7a4 16 = .ok (.iload_n 3, 1) := by decide +kernel
theorem dJ6_stringSize_0f7a4_17 : decode cJ6_stringSize_0f7a4 17 = .ok (.bipush 10, 2) := by decide +kernel
theorem dJ6_stringSize_0f7a4_19 : decode cJ6_stringSize_0f7a4 19 = .ok (.if_icmp .ge 23, 3) := by decide +kernel
theorem dJ6_stringSize_0f7a4_22 : decode cJ6_stringSize_0f7a4 22 = .ok (.iload_n 0, 1) := by decide +kernel
theorem dJ6_stringSize_0f7a4_23 : decode cJ6_stringSize_0f7a4 23 = .ok (.iload_n 2, 1) := by decide +kernel
theorem dJ6_stringSize_0f7a4_24 : decode cJ6_stringSize_0f7a4 24 = .ok (.if_icmp .le 7, 3) := by decide +kernel
theorem dJ6_stringSize_0f7a4_27 : decode cJ6_stringSize_0f7a4 27 = .ok (.iload_n 3, 1) := by decide +kernel
theorem dJ6_stringSize_0f7a4_28 : decode cJ6_stringSize_0f7a4 28 = .ok (.iload_n 1, 1) := by decide +kernel
theorem dJ6_stringSize_0f7a4_29 : decode cJ6_stringSize_0f7a4 29 = .ok (.iadd, 1) := by decide +kernel
theorem dJ6_stringSize_0f7a4_30 : decode cJ6_stringSize_0f7a4 30 = .ok (.ireturn, 1) := by decide +kernel
theorem dJ6_stringSize_0f7a4_31 : decode cJ6_stringSize_0f7a4 31 = .ok (.bipush 10, 2) := by decide +kernel
theorem dJ6_stringSize_0f7a4_33 : decode cJ6_stringSize_0f7a4 33 = .ok (.iload_n 2, 1) := by decide +kernel
theorem dJ6_stringSize_0f7a4_34 : decode cJ6_stringSize_0f7a4 34 = .ok (.imul, 1) := by decide +kernel
theorem dJ6_stringSize_0f7a4_35 : decode cJ6_stringSize_0f7a4 35 = .ok (.istore_n 2, 1) := by decide +kernel
theorem dJ6_stringSize_0f7a4_36 : decode cJ6_stringSize_0f7a4 36 = .ok (.iinc 3 1, 3) := by decide +kernel
theorem dJ6_stringSize_0f7a4_39 : decode cJ6_stringSize_0f7a4 39 = .ok (.goto (-23), 3) := by decide +kernel
theorem dJ6_stringSize_0f7a4_42 : decode cJ6_stringSize_0f7a4 42 = .ok (.bipush 10, 2) := by decide +kernel
theorem dJ6_stringSize_0f7a4_44 : decode cJ6_stringSize_0f7a4 44 = .ok (.iload_n 1, 1) := by decide +kernel
theorem dJ6_stringSize_0f7a4_45 : decode cJ6_stringSize_0f7a4 45 = .ok (.iadd, 1) := by decide +kernel
theorem dJ6_stringSize_0f7a4_46 : decode cJ6_stringSize_0f7a4 46 = .ok (.ireturn, 1) := by decide +kernel
theorem dJ6_bitCount_0f7a4_0 : decode cJ6_bitCount_0f7a4 0 = .ok (.iload_n 0, 1) := by decide +kernel
theorem dJ6_bitCount_0f7a4_1 : decode cJ6_bitCount_0f7a4 1 = .ok (.iload_n 0, 1) := by decide +kernel
theorem dJ6_bitCount_0f7a4_2 : decode cJ6_bitCount_0f7a4 2 = .ok (.iconst 1, 1) := by decide +kernel
theorem dJ6_bitCount_0f7a4_3 : decode cJ6_bitCount_0f7a4 3 = .ok (.iushr, 1) := by decide +kernel
theorem dJ6_bitCount_0f7a4_4 : decode cJ6_bitCount_0f7a4 4 = .ok (.ldc_w 265, 3) := by decide +kernel
theorem dJ6_bitCount_0f7a4_7 : decode cJ6_bitCount_0f7a4 7 = .ok (.iand, 1) := by decide +kernel
theorem dJ6_bitCount_0f7a4_8 : decode cJ6_bitCount_0f7a4 8 = .ok (.isub, 1) := by decide +kernel
theorem dJ6_bitCount_0f7a4_9 : decode cJ6_bitCount_0f7a4 9 = .ok (.istore_n 0, 1) := by decide +kernel
theorem dJ6_bitCount_0f7a4_10 : decode cJ6_bitCount_0f7a4 10 = .ok (.iload_n 0, 1) := by decide +kernel
theorem dJ6_bitCount_0f7a4_11 : decode cJ6_bitCount_0f7a4 11 = .ok (.ldc_w 266, 3) := by decide +kernel
theorem dJ6_bitCount_0f7a4_14 : decode cJ6_bitCount_0f7a4 14 = .ok (.iand, 1) := by decide +kernel
theorem dJ6_bitCount_0f7a4_15 : decode cJ6_bitCount_0f7a4 15 = .ok (.iload_n 0, 1) := by decide +kernel
theorem dJ6_bitCount_0f7a4_16 : decode cJ6_bitCount_0f7a4 16 = .ok (.iconst 2, 1) := by decide +kernel
theorem dJ6_bitCount_0f7a4_17 : decode cJ6_bitCount_0f7a4 17 = .ok (.iushr, 1) := by decide +kernel
theorem dJ6_bitCount_0f7a4_18 : decode cJ6_bitCount_0f7a4 18 = .ok (.ldc_w 266, 3) := by decide +kernel
theorem dJ6_bitCount_0f7a4_21 : decode cJ6_bitCount_0f7a4 21 = .ok (.iand, 1) := by decide +kernel
theorem dJ6_bitCount_0f7a4_22 : decode cJ6_bitCount_0f7a4 22 = .ok (.iadd, 1) := by decide +kernel
theorem dJ6_bitCount_0f7a4_23 : decode cJ6_bitCount_0f7a4 23 = .ok (.istore_n 0, 1) := by decide +kernel
theorem dJ6_bitCount_0f7a4_24 : decode cJ6_bitCount_0f7a4 24 = .ok (.iload_n 0, 1) := by decide +kernel
theorem dJ6_bitCount_0f7a4_25 : decode cJ6_bitCount_0f7a4 25 = .ok (.iload_n 0, 1) := by decide +kernel
theorem dJ6_bitCount_0f7a4_26 : decode cJ6_bitCount_0f7a4 26 = .ok (.iconst 4, 1) := by decide +kernel
theorem dJ6_bitCount_0f7a4_27 : decode cJ6_bitCount_0f7a4 27 = .ok (.iushr, 1) := by decide +kernel
theorem dJ6_bitCount_0f7a4_28 : decode cJ6_bitCount_0f7a4 28 = .ok (.iadd, 1) := by decide +kernel
theorem dJ6_bitCount_0f7a4_29 : decode cJ6_bitCount_0f7a4 29 = .ok (.ldc_w 267, 3) := by decide +kernel
theorem dJ6_bitCount_0f7a4_32 : decode cJ6_bitCount_0f7a4 32 = .ok (.iand, 1) := by decide +kernel
theorem dJ6_bitCount_0f7a4_33 : decode cJ6_bitCount_0f7a4 33 = .ok (.istore_n 0, 1) := by decide +kernel
theorem dJ6_bitCount_0f7a4_34 : decode cJ6_bitCount_0f7a4 34 = .ok (.iload_n 0, 1) := by decide +kernel
theorem dJ6_bitCount_0f7a4_35 : decode cJ6_bitCount_0f7a4 35 = .ok (.iload_n 0, 1) := by decide +kernel
theorem dJ6_bitCount_0f7a4_36 : decode cJ6_bitCount_0f7a4 36 = .ok (.bipush 8, 2) := by decide +kernel
theorem dJ6_bitCount_0f7a4_38 : decode cJ6_bitCount_0f7a4 38 = .ok (.iushr, 1) := by decide +kernel
theorem dJ6_bitCount_0f7a4_39 : decode cJ6_bitCount_0f7a4 39 = .ok (.iadd, 1) := by decide +kernel
theorem dJ6_bitCount_0f7a4_40 : decode cJ6_bitCount_0f7a4 40 = .ok (.istore_n 0, 1) := by decide +kernel
theorem dJ6_bitCount_0f7a4_41 : decode cJ6_bitCount_0f7a4 41 = .ok (.iload_n 0, 1) := by decide +kernel
theorem dJ6_bitCount_0f7a4_42 : decode cJ6_bitCount_0f7a4 42 = .ok (.iload_n 0, 1) := by decide +kernel
theorem dJ6_bitCount_0f7a4_43 : decode cJ6_bitCount_0f7a4 43 = .ok (.bipush 16, 2) := by decide +kernel
theorem dJ6_bitCount_0f7a4_45 : decode cJ6_bitCount_0f7a4 45 = .ok (.iushr, 1) := by decide +kernel
theorem dJ6_bitCount_0f7a4_46 : decode cJ6_bitCount_0f7a4 46 = .ok (.iadd, 1) := by decide +kernel
theorem dJ6_bitCount_0f7a4_47 : decode cJ6_bitCount_0f7a4 47 = .ok (.istore_n 0, 1) := by decide +kernel
theorem dJ6_bitCount_0f7a4_48 : decode cJ6_bitCount_0f7a4 48 = .ok (.iload_n 0, 1) := by decide +kernel
theorem dJ6_bitCount_0f7a4_49 : decode cJ6_bitCount_0f7a4 49 = .ok (.bipush 63, 2) := by decide +kernel
theorem dJ6_bitCount_0f7a4_51 : decode cJ6_bitCount_0f7a4 51 = .ok (.iand, 1) := by decide +kernel
theorem dJ6_bitCount_0f7a4_52 : decode cJ6_bitCount_0f7a4 52 = .ok (.ireturn, 1) := by decide +kernel
theorem dJ9_max_7cf53_0 : decode cJ9_max_7cf53 0 = .ok (.iload_n 0, 1) := by decide +kernel
theorem dJ9_max_7cf53_1 : decode cJ9_max_7cf53 1 = .ok (.iload_n 1, 1) := by decide +kernel
theorem dJ9_max_7cf53_2 : decode cJ9_max_7cf53 2 = .ok (.if_icmp .lt 7, 3) := by decide +kernel
theorem dJ9_max_7cf53_5 : decode cJ9_max_7cf53 5 = .ok (.iload_n 0, 1) := by decide +kernel
theorem dJ9_max_7cf53_6 : decode cJ9_max_7cf53 6 = .ok (.goto 4, 3) := by decide +kernel
theorem dJ9_max_7cf53_9 : decode cJ9_max_7cf53 9 = .ok (.iload_n 1, 1) := by decide +kernel
theorem dJ9_max_7cf53_10 : decode cJ9_max_7cf53 10 = .ok (.ireturn, 1) := by decide +kernel
theorem dJ9_min_7cf53_0 : decode cJ9_min_7cf53 0 = .ok (.iload_n 0, 1) := by decide +kernel
theorem dJ9_min_7cf53_1 : decode cJ9_min_7cf53 1 = .ok (.iload_n 1, 1) := by decide +kernel
theorem dJ9_min_7cf53_2 : decode cJ9_min_7cf53 2 = .ok (.if_icmp .gt 7, 3) := by decide +kernel
theorem dJ9_min_7cf53_5 : decode cJ9_min_7cf53 5 = .ok (.iload_n 0, 1) := by decide +kernel
theorem dJ9_min_7cf53_6 : decode cJ9_min_7cf53 6 = .ok (.goto 4, 3) := by decide +kernel
theorem dJ9_min_7cf53_9 : decode cJ9_min_7cf53 9 = .ok (.iload_n 1, 1) := by decide +kernel
theorem dJ9_min_7cf53_10 : decode cJ9_min_7cf53 10 = .ok (.ireturn, 1) := by decide +kernel
theorem dJ0_init_81219_0 : decode cJ0_init_81219 0 = .ok (.aload_n 0, 1) := by decide +kernel
theorem dJ0_init_81219_1 : decode cJ0_init_81219 1 = .ok (.aload_n 1, 1) := by decide +kernel
theorem dJ0_init_81219_2 : decode cJ0_init_81219 2 = .ok (.aconst_null, 1) := by decide +kernel
theorem dJ0_init_81219_3 : decode cJ0_init_81219 3 = .ok (.invokespecial 489, 3) := by decide +kernel
theorem dJ0_init_81219_6 : decode cJ0_init_81219 6 = .ok (.return_, 1) := by decide +kernel
theorem dJ0_length_8abf5_0 : decode cJ0_length_8abf5 0 = .ok (.aload_n 0, 1) := by decide +kernel
theorem dJ0_length_8abf5_1 : decode cJ0_length_8abf5 1 = .ok (.getfield 9, 3) := by decide +kernel
theorem dJ0_length_8abf5_4 : decode cJ0_length_8abf5 4 = .ok (.arraylength, 1) := by decide +kernel
theorem dJ0_length_8abf5_5 : decode cJ0_length_8abf5 5 = .ok (.aload_n 0, 1) := by decide +kernel
theorem dJ0_length_8abf5_6 : decode cJ0_length_8abf5 6 = .ok (.invokevirtual 335, 3) := by decide +kernel
theorem dJ0_length_8abf5_9 : decode cJ0_length_8abf5 9 = .ok (.ishr, 1) := by decide +kernel
theorem dJ0_length_8abf5_10 : decode cJ0_length_8abf5 10 = .ok (.ireturn, 1) := by decide +kernel
theorem dJ0_charAt_5068e_0 : decode cJ0_charAt_5068e 0 = .ok (.aload_n 0, 1) := by decide +kernel
theorem dJ0_charAt_5068e_1 : decode cJ0_charAt_5068e 1 = .ok (.invokevirtual 492, 3) := by decide +kernel
theorem dJ0_charAt_5068e_4 : decode cJ0_charAt_5068e 4 = .ok (.ifCond .eq 12, 3) := by decide +kernel
theorem dJ0_charAt_5068e_7 : decode cJ0_charAt_5068e 7 = .ok (.aload_n 0, 1) := by decide +kernel
theorem dJ0_charAt_5068e_8 : decode cJ0_charAt_5068e 8 = .ok (.getfield 9, 3) := by decide +kernel
theorem dJ0_charAt_5068e_11 : decode cJ0_charAt_5068e 11 = .ok (.iload_n 1, 1) := by decide +kernel
theorem dJ0_charAt_5068e_12 : decode cJ0_charAt_5068e 12 = .ok (.invokestatic 495, 3) := by decide +kernel
theorem dJ0_charAt_5068e_15 : decode cJ0_charAt_5068e 15 = .ok (.ireturn, 1) := by decide +kernel
theorem dJ0_charAt_5068e_16 : decode cJ0_charAt_5068e 16 = .ok (.aload_n 0, 1) := by decide +kernel
theorem dJ0_charAt_5068e_17 : decode cJ0_charAt_5068e 17 = .ok (.getfield 9, 3) := by decide +kernel
theorem dJ0_charAt_5068e_20 : decode cJ0_charAt_5068e 20 = .ok (.iload_n 1, 1) := by decide +kernel
theorem dJ0_charAt_5068e_21 : decode cJ0_charAt_5068e 21 = .ok (.invokestatic 498, 3) := by decide +kernel
theorem dJ0_charAt_5068e_24 : decode cJ0_charAt_5068e 24 = .ok (.ireturn, 1) := by decide +kernel
theorem dJ0_getBytes_840e7_0 : decode cJ0_getBytes_840e7 0 = .ok (.aload_n 0, 1) := by decide +kernel
theorem dJ0_getBytes_840e7_1 : decode cJ0_getBytes_840e7 1 = .ok (.invokevirtual 335, 3) := by decide +kernel
theorem dJ0_getBytes_840e7_4 : decode cJ0_getBytes_840e7 4 = .ok (.iload_n 3, 1) := by decide +kernel
theorem dJ0_getBytes_840e7_5 : decode cJ0_getBytes_840e7 5 = .ok (.if_icmp .ne 23, 3) := by decide +kernel
theorem dJ0_getBytes_840e7_8 : decode cJ0_getBytes_840e7 8 = .ok (.aload_n 0, 1) := by decide +kernel
theorem dJ0_getBytes_840e7_9 : decode cJ0_getBytes_840e7 9 = .ok (.getfield 9, 3) := by decide +kernel
theorem dJ0_getBytes_840e7_12 : decode cJ0_getBytes_840e7 12 = .ok (.iconst 0, 1) := by decide +kernel
theorem dJ0_getBytes_840e7_13 : decode cJ0_getBytes_840e7 13 = .ok (.aload_n 1, 1) := by decide +kernel
theorem dJ0_getBytes_840e7_14 : decode cJ0_getBytes_840e7 14 = .ok (.iload_n 2, 1) := by decide +kernel
theorem dJ0_getBytes_840e7_15 : decode cJ0_getBytes_840e7 15 = .ok (.iload_n 3, 1) := by decide +kernel
theorem dJ0_getBytes_840e7_16 : decode cJ0_getBytes_840e7 16 = .ok (.ishl, 1) := by decide +kernel
theorem dJ0_getBytes_840e7_17 : decode cJ0_getBytes_840e7 17 = .ok (.aload_n 0, 1) := by decide +kernel
theorem dJ0_getBytes_840e7_18 : decode cJ0_getBytes_840e7 18 = .ok (.getfield 9, 3) := by decide +kernel
theorem dJ0_getBytes_840e7_21 : decode cJ0_getBytes_840e7 21 = .ok (.arraylength, 1) := by decide +kernel
theorem dJ0_getBytes_840e7_22 : decode cJ0_getBytes_840e7 22 = .ok (.invokestatic 212, 3) := by decide +kernel
theorem dJ0_getBytes_840e7_25 : decode cJ0_getBytes_840e7 25 = .ok (.goto 18, 3) := by decide +kernel
theorem dJ0_getBytes_840e7_28 : decode cJ0_getBytes_840e7 28 = .ok (.aload_n 0, 1) := by decide +kernel
theorem dJ0_getBytes_840e7_29 : decode cJ0_getBytes_840e7 29 = .ok (.getfield 9, 3) := by decide +kernel
theorem dJ0_getBytes_840e7_32 : decode cJ0_getBytes_840e7 32 = .ok (.iconst 0, 1) := by decide +kernel
theorem dJ0_getBytes_840e7_33 : decode cJ0_getBytes_840e7 33 = .ok (.aload_n 1, 1) := by decide +kernel
theorem dJ0_getBytes_840e7_34 : decode cJ0_getBytes_840e7 34 = .ok (.iload_n 2, 1) := by decide +kernel
theorem dJ0_getBytes_840e7_35 : decode cJ0_getBytes_840e7 35 = .ok (.aload_n 0, 1) := by decide +kernel
theorem dJ0_getBytes_840e7_36 : decode cJ0_getBytes_840e7 36 = .ok (.getfield 9, 3) := by decide +kernel
theorem dJ0_getBytes_840e7_39 : decode cJ0_getBytes_840e7 39 = .ok (.arraylength, 1) := by decide +kernel
theorem dJ0_getBytes_840e7_40 : decode cJ0_getBytes_840e7 40 = .ok (.invokestatic 106, 3) := by decide +kernel
theorem dJ0_getBytes_840e7_43 : decode cJ0_getBytes_840e7 43 = .ok (.return_, 1) := by decide +kernel
theorem dJ0_init_db425_0 : decode cJ0_init_db425 0 = .ok (.aload_n 0, 1) := by decide +kernel
theorem dJ0_init_db425_1 : decode cJ0_init_db425 1 = .ok (.invokespecial 1, 3) := by decide +kernel
theorem dJ0_init_db425_4 : decode cJ0_init_db425 4 = .ok (.aload_n 1, 1) := by decide +kernel
theorem dJ0_init_db425_5 : decode cJ0_init_db425 5 = .ok (.invokevirtual 552, 3) := by decide +kernel
theorem dJ0_init_db425_8 : decode cJ0_init_db425 8 = .ok (.astore_n 3, 1) := by decide +kernel
theorem dJ0_init_db425_9 : decode cJ0_init_db425 9 = .ok (.aload_n 1, 1) := by decide +kernel
theorem dJ0_init_db425_10 : decode cJ0_init_db425 10 = .ok (.invokevirtual 549, 3) := by decide +kernel
theorem dJ0_init_db425_13 : decode cJ0_init_db425 13 = .ok (.istore 4, 2) := by decide +kernel
theorem dJ0_init_db425_15 : decode cJ0_init_db425 15 = .ok (.aload_n 1, 1) := by decide +kernel
theorem dJ0_init_db425_16 : decode cJ0_init_db425 16 = .ok (.invokevirtual 1047, 3) := by decide +kernel
theorem dJ0_init_db425_19 : decode cJ0_init_db425 19 = .ok (.ifCond .eq 22, 3) := by decide +kernel
theorem dJ0_init_db425_22 : decode cJ0_init_db425 22 = .ok (.aload_n 0, 1) := by decide +kernel
theorem dJ0_init_db425_23 : decode cJ0_init_db425 23 = .ok (.iconst 0, 1) := by decide +kernel
theorem dJ0_init_db425_24 : decode cJ0_init_db425 24 = .ok (.putfield 15, 3) := by decide +kernel
theorem dJ0_init_db425_27 : decode cJ0_init_db425 27 = .ok (.aload_n 0, 1) := by decide +kernel
theorem dJ0_init_db425_28 : decode cJ0_init_db425 28 = .ok (.aload_n 3, 1) := by decide +kernel
theorem dJ0_init_db425_29 : decode cJ0_init_db425 29 = .ok (.iconst 0, 1) := by decide +kernel
theorem dJ0_init_db425_30 : decode cJ0_init_db425 30 = .ok (.iload 4, 2) := by decide +kernel
theorem dJ0_init_db425_32 : decode cJ0_init_db425 32 = .ok (.invokestatic 54, 3) := by decide +kernel
theorem dJ0_init_db425_35 : decode cJ0_init_db425 35 = .ok (.putfield 9, 3) := by decide +kernel
theorem dJ0_init_db425_38 : decode cJ0_init_db425 38 = .ok (.goto 59, 3) := by decide +kernel
theorem dJ0_init_db425_41 : decode cJ0_init_db425 41 = .ok (.getstatic 38, 3) := by decide +kernel
theorem dJ0_init_db425_44 : decode cJ0_init_db425 44 = .ok (.ifCond .eq 35, 3) := by decide +kernel
theorem dJ0_init_db425_47 : decode cJ0_init_db425 47 = .ok (.aload_n 1, 1) := by decide +kernel
theorem dJ0_init_db425_48 : decode cJ0_init_db425 48 = .ok (.getfield 1048, 3) := by decide +kernel
theorem dJ0_init_db425_51 : decode cJ0_init_db425 51 = .ok (.ifCond .eq 28, 3) := by decide +kernel
theorem dJ0_init_db425_54 : decode cJ0_init_db425 54 = .ok (.aload_n 0, 1) := by decide +kernel
theorem dJ0_init_db425_55 : decode cJ0_init_db425 55 = .ok (.aload_n 3, 1) := by decide +kernel
theorem dJ0_init_db425_56 : decode cJ0_init_db425 56 = .ok (.iconst 0, 1) := by decide +kernel
theorem dJ0_init_db425_57 : decode cJ0_init_db425 57 = .ok (.iload 4, 2) := by decide +kernel
theorem dJ0_init_db425_59 : decode cJ0_init_db425 59 = .ok (.invokestatic 1051, 3) := by decide +kernel
theorem dJ0_init_db425_62 : decode cJ0_init_db425 62 = .ok (.putfield 9, 3) := by decide +kernel
theorem dJ0_init_db425_65 : decode cJ0_init_db425 65 = .ok (.aload_n 0, 1) := by decide +kernel
theorem dJ0_init_db425_66 : decode cJ0_init_db425 66 = .ok (.aload_n 0, 1) := by decide +kernel
theorem dJ0_init_db425_67 : decode cJ0_init_db425 67 = .ok (.getfield 9, 3) := by decide +kernel
theorem dJ0_init_db425_70 : decode cJ0_init_db425 70 = .ok (.iload 4, 2) := by decide +kernel
theorem dJ0_init_db425_72 : decode cJ0_init_db425 72 = .ok (.invokestatic 47, 3) := by decide +kernel
theorem dJ0_init_db425_75 : decode cJ0_init_db425 75 = .ok (.putfield 15, 3) := by decide +kernel
theorem dJ0_init_db425_78 : decode cJ0_init_db425 78 = .ok (.return_, 1) := by decide +kernel
theorem dJ0_init_db425_79 : decode cJ0_init_db425 79 = .ok (.aload_n 0, 1) := by decide +kernel
theorem dJ0_init_db425_80 : decode cJ0_init_db425 80 = .ok (.iconst 1, 1) := by decide +kernel
theorem dJ0_init_db425_81 : decode cJ0_init_db425 81 = .ok (.putfield 15, 3) := by decide +kernel
theorem dJ0_init_db425_84 : decode cJ0_init_db425 84 = .ok (.aload_n 0, 1) := by decide +kernel
theorem dJ0_init_db425_85 : decode cJ0_init_db425 85 = .ok (.aload_n 3, 1) := by decide +kernel
theorem dJ0_init_db425_86 : decode cJ0_init_db425 86 = .ok (.iconst 0, 1) := by decide +kernel
theorem dJ0_init_db425_87 : decode cJ0_init_db425 87 = .ok (.iload 4, 2) := by decide +kernel
theorem dJ0_init_db425_89 : decode cJ0_init_db425 89 = .ok (.iconst 1, 1) := by decide +kernel
theorem dJ0_init_db425_90 : decode cJ0_init_db425 90 = .ok (.ishl, 1) := by decide +kernel
theorem dJ0_init_db425_91 : decode cJ0_init_db425 91 = .ok (.invokestatic 54, 3) := by decide +kernel
theorem dJ0_init_db425_94 : decode cJ0_init_db425 94 = .ok (.putfield 9, 3) := by decide +kernel
theorem dJ0_init_db425_97 : decode cJ0_init_db425 97 = .ok (.return_, 1) := by decide +kernel
theorem dJ0_coder_7d493_0 : decode cJ0_coder_7d493 0 = .ok (.getstatic 38, 3) := by decide +kernel
theorem dJ0_coder_7d493_3 : decode cJ0_coder_7d493 3 = .ok (.ifCond .eq 10, 3) := by decide +kernel
theorem dJ0_coder_7d493_6 : decode cJ0_coder_7d493 6 = .ok (.aload_n 0, 1) := by decide +kernel
theorem dJ0_coder_7d493_7 : decode cJ0_coder_7d493 7 = .ok (.getfield 15, 3) := by decide +kernel
theorem dJ0_coder_7d493_10 : decode cJ0_coder_7d493 10 = .ok (.goto 4, 3) := by decide +kernel
theorem dJ0_coder_7d493_13 : decode cJ0_coder_7d493 13 = .ok (.iconst 1, 1) := by decide +kernel
theorem dJ0_coder_7d493_14 : decode cJ0_coder_7d493 14 = .ok (.ireturn, 1) := by decide +kernel
theorem dJ0_isLatin1_aae02_0 : decode cJ0_isLatin1_aae02 0 = .ok (.getstatic 38, 3) := by decide +kernel
theorem dJ0_isLatin1_aae02_3 : decode cJ0_isLatin1_aae02 3 = .ok (.ifCond .eq 14, 3) := by decide +kernel
theorem dJ0_isLatin1_aae02_6 : decode cJ0_isLatin1_aae02 6 = .ok (.aload_n 0, 1) := by decide +kernel
theorem dJ0_isLatin1_aae02_7 : decode cJ0_isLatin1_aae02 7 = .ok (.getfield 15, 3) := by decide +kernel
theorem dJ0_isLatin1_aae02_10 : decode cJ0_isLatin1_aae02 10 = .ok (.ifCond .ne 7, 3) := by decide +kernel
theorem dJ0_isLatin1_aae02_13 : decode cJ0_isLatin1_aae02 13 = .ok (.iconst 1, 1) := by decide +kernel
theorem dJ0_isLatin1_aae02_14 : decode cJ0_isLatin1_aae02 14 = .ok (.goto 4, 3) := by decide +kernel
theorem dJ0_isLatin1_aae02_17 : decode cJ0_isLatin1_aae02 17 = .ok (.iconst 0, 1) := by decide +kernel
theorem dJ0_isLatin1_aae02_18 : decode cJ0_isLatin1_aae02 18 = .ok (.ireturn, 1) := by decide +kernel
theorem dJ0_checkIndex_df160_0 : decode cJ0_checkIndex_df160 0 = .ok (.iload_n 0, 1) := by decide +kernel
theorem dJ0_checkIndex_df160_1 : decode cJ0_checkIndex_df160 1 = .ok (.iload_n 1, 1) := by decide +kernel
theorem dJ0_checkIndex_df160_2 : decode cJ0_checkIndex_df160 2 = .ok (.getstatic 1053, 3) := by decide +kernel
theorem dJ0_checkIndex_df160_5 : decode cJ0_checkIndex_df160 5 = .ok (.invokestatic 1059, 3) := by decide +kernel
theorem dJ0_checkIndex_df160_8 : decode cJ0_checkIndex_df160 8 = .ok (.pop, 1) := by decide +kernel
theorem dJ0_checkIndex_df160_9 : decode cJ0_checkIndex_df160 9 = .ok (.return_, 1) := by decide +kernel
theorem dJ0_checkBoundsOffCount_cabcc_0 : decode cJ0_checkBoundsOffCount_cabcc 0 = .ok (.iload_n 0, 1) := by decide +kernel
theorem dJ0_checkBoundsOffCount_cabcc_1 : decode cJ0_checkBoundsOffCount_cabcc 1 = .ok (.iload_n 1, 1) := by decide +kernel
theorem dJ0_checkBoundsOffCount_cabcc_2 : decode cJ0_checkBoundsOffCount_cabcc 2 = .ok (.iload_n 2, 1) := by decide +kernel
theorem dJ0_checkBoundsOffCount_cabcc_3 : decode cJ0_checkBoundsOffCount_cabcc 3 = .ok (.getstatic 1053, 3) := by decide +kernel
theorem dJ0_checkBoundsOffCount_cabcc_6 : decode cJ0_checkBoundsOffCount_cabcc 6 = .ok (.invokestatic 1065, 3) := by decide +kernel
theorem dJ0_checkBoundsOffCount_cabcc_9 : decode cJ0_checkBoundsOffCount_cabcc 9 = .ok (.ireturn, 1) := by decide +kernel
theorem dJ0_checkBoundsBeginEnd_23922_0 : decode cJ0_checkBoundsBeginEnd_23922 0 = .ok (.iload_n 0, 1) := by decide +kernel
theorem dJ0_checkBoundsBeginEnd_23922_1 : decode cJ0_checkBoundsBeginEnd_23922 1 = .ok (.iload_n 1, 1) := by decide +kernel
theorem dJ0_checkBoundsBeginEnd_23922_2 : decode cJ0_checkBoundsBeginEnd_23922 2 = .ok (.iload_n 2, 1) := by decide +kernel
theorem dJ0_checkBoundsBeginEnd_23922_3 : decode cJ0_checkBoundsBeginEnd_23922 3 = .ok (.getstatic 1053, 3) := by decide +kernel
theorem dJ0_checkBoundsBeginEnd_23922_6 : decode cJ0_checkBoundsBeginEnd_23922 6 = .ok (.invokestatic 1062, 3) := by decide +kernel
theorem dJ0_checkBoundsBeginEnd_23922_9 : decode cJ0_checkBoundsBeginEnd_23922 9 = .ok (.pop, 1) := by decide +kernel
theorem dJ0_checkBoundsBeginEnd_23922_10 : decode cJ0_checkBoundsBeginEnd_23922 10 = .ok (.return_, 1) := by decide +kernel
theorem dJ4_init_da8c8_0 : decode cJ4_init_da8c8 0 = .ok (.aload_n 0, 1) := by decide +kernel
theorem dJ4_init_da8c8_1 : decode cJ4_init_da8c8 1 = .ok (.bipush 16, 2) := by decide +kernel
theorem dJ4_init_da8c8_3 : decode cJ4_init_da8c8 3 = .ok (.invokespecial 1, 3) := by decide +kernel
theorem dJ4_init_da8c8_6 : decode cJ4_init_da8c8 6 = .ok (.return_, 1) := by decide +kernel
theorem dJ4_init_a7421_0 : decode cJ4_init_a7421 0 = .ok (.aload_n 0, 1) := by decide +kernel
theorem dJ4_init_a7421_1 : decode cJ4_init_a7421 1 = .ok (.aload_n 1, 1) := by decide +kernel
theorem dJ4_init_a7421_2 : decode cJ4_init_a7421 2 = .ok (.invokespecial 7, 3) := by decide +kernel
theorem dJ4_init_a7421_5 : decode cJ4_init_a7421 5 = .ok (.return_, 1) := by decide +kernel
theorem dJ4_append_15ec4_0 : decode cJ4_append_15ec4 0 = .ok (.aload_n 0, 1) := by decide +kernel
theorem dJ4_append_15ec4_1 : decode cJ4_append_15ec4 1 = .ok (.aload_n 1, 1) := by decide +kernel
theorem dJ4_append_15ec4_2 : decode cJ4_append_15ec4 2 = .ok (.invokespecial 29, 3) := by decide +kernel
theorem dJ4_append_15ec4_5 : decode cJ4_append_15ec4 5 = .ok (.pop, 1) := by decide +kernel
theorem dJ4_append_15ec4_6 : decode cJ4_append_15ec4 6 = .ok (.aload_n 0, 1) := by decide +kernel
theorem dJ4_append_15ec4_7 : decode cJ4_append_15ec4 7 = .ok (.areturn, 1) := by decide +kernel
theorem dJ4_append_cf468_0 : decode cJ4_append_cf468 0 = .ok (.aload_n 0, 1) := by decide +kernel
theorem dJ4_append_cf468_1 : decode cJ4_append_cf468 1 = .ok (.iload_n 1, 1) := by decide +kernel
theorem dJ4_append_cf468_2 : decode cJ4_append_cf468 2 = .ok (.invokespecial 50, 3) := by decide +kernel
theorem dJ4_append_cf468_5 : decode cJ4_append_cf468 5 = .ok (.pop, 1) := by decide +kernel
theorem dJ4_append_cf468_6 : decode cJ4_append_cf468 6 = .ok (.aload_n 0, 1) := by decide +kernel
theorem dJ4_append_cf468_7 : decode cJ4_append_cf468 7 = .ok (.areturn, 1) := by decide +kernel
theorem dJ4_append_bf812_0 : decode cJ4_append_bf812 0 = .ok (.aload_n 0, 1) := by decide +kernel
theorem dJ4_append_bf812_1 : decode cJ4_append_bf812 1 = .ok (.iload_n 1, 1) := by decide +kernel
theorem dJ4_append_bf812_2 : decode cJ4_append_bf812 2 = .ok (.invokespecial 53, 3) := by decide +kernel
theorem dJ4_append_bf812_5 : decode cJ4_append_bf812 5 = .ok (.pop, 1) := by decide +kernel
theorem dJ4_append_bf812_6 : decode cJ4_append_bf812 6 = .ok (.aload_n 0, 1) := by decide +kernel
theorem dJ4_append_bf812_7 : decode cJ4_append_bf812 7 = .ok (.areturn, 1) := by decide +kernel
theorem dJ4_toString_0e30d_0 : decode cJ4_toString_0e30d 0 = .ok (.new 18, 3) := by decide +kernel
theorem dJ4_toString_0e30d_3 : decode cJ4_toString_0e30d 3 = .ok (.dup, 1) := by decide +kernel
theorem dJ4_toString_0e30d_4 : decode cJ4_toString_0e30d 4 = .ok (.aload_n 0, 1) := by decide +kernel
theorem dJ4_toString_0e30d_5 : decode cJ4_toString_0e30d 5 = .ok (.invokespecial 137, 3) := by decide +kernel
theorem dJ4_toString_0e30d_8 : decode cJ4_toString_0e30d 8 = .ok (.areturn, 1) := by decide +kernel
theorem dJ4_append_cf1ce_0 : decode cJ4_append_cf1ce 0 = .ok (.aload_n 0, 1) := by decide +kernel
theorem dJ4_append_cf1ce_1 : decode cJ4_append_cf1ce 1 = .ok (.aload_n 1, 1) := by decide +kernel
theorem dJ4_append_cf1ce_2 : decode cJ4_append_cf1ce 2 = .ok (.invokevirtual 23, 3) := by decide +kernel
theorem dJ4_append_cf1ce_5 : decode cJ4_append_cf1ce 5 = .ok (.areturn, 1) := by decide +kernel
theorem dJ4_length_8abf5_0 : decode cJ4_length_8abf5 0 = .ok (.aload_n 0, 1) := by decide +kernel
theorem dJ4_length_8abf5_1 : decode cJ4_length_8abf5 1 = .ok (.invokespecial 343, 3) := by decide +kernel
theorem dJ4_length_8abf5_4 : decode cJ4_length_8abf5 4 = .ok (.ireturn, 1) := by decide +kernel
theorem dJ1_charAt_3b067_0 : decode cJ1_charAt_3b067 0 = .ok (.iload_n 1, 1) := by decide +kernel
theorem dJ1_charAt_3b067_1 : decode cJ1_charAt_3b067 1 = .ok (.aload_n 0, 1) := by decide +kernel
theorem dJ1_charAt_3b067_2 : decode cJ1_charAt_3b067 2 = .ok (.arraylength, 1) := by decide +kernel
theorem dJ1_charAt_3b067_3 : decode cJ1_charAt_3b067 3 = .ok (.invokestatic 9, 3) := by decide +kernel
theorem dJ1_charAt_3b067_6 : decode cJ1_charAt_3b067 6 = .ok (.aload_n 0, 1) := by decide +kernel
theorem dJ1_charAt_3b067_7 : decode cJ1_charAt_3b067 7 = .ok (.iload_n 1, 1) := by decide +kernel
theorem dJ1_charAt_3b067_8 : decode cJ1_charAt_3b067 8 = .ok (.baload, 1) := by decide +kernel
theorem dJ1_charAt_3b067_9 : decode cJ1_charAt_3b067 9 = .ok (.sipush 255, 3) := by decide +kernel
theorem dJ1_charAt_3b067_12 : decode cJ1_charAt_3b067 12 = .ok (.iand, 1) := by decide +kernel
theorem dJ1_charAt_3b067_13 : decode cJ1_charAt_3b067 13 = .ok (.i2c, 1) := by decide +kernel
theorem dJ1_charAt_3b067_14 : decode cJ1_charAt_3b067 14 = .ok (.ireturn, 1) := by decide +kernel
theorem dJ1_canEncode_fc78d_0 : decode cJ1_canEncode_fc78d 0 = .ok (.iload_n 0, 1) := by decide +kernel
theorem dJ1_canEncode_fc78d_1 : decode cJ1_canEncode_fc78d 1 = .ok (.sipush 255, 3) := by decide +kernel
theorem dJ1_canEncode_fc78d_4 : decode cJ1_canEncode_fc78d 4 = .ok (.if_icmp .gt 7, 3) := by decide +kernel
theorem dJ1_canEncode_fc78d_7 : decode cJ1_canEncode_fc78d 7 = .ok (.iconst 1, 1) := by decide +kernel
theorem dJ1_canEncode_fc78d_8 : decode cJ1_canEncode_fc78d 8 = .ok (.goto 4, 3) := by decide +kernel
theorem dJ1_canEncode_fc78d_11 : decode cJ1_canEncode_fc78d 11 = .ok (.iconst 0, 1) := by decide +kernel
theorem dJ1_canEncode_fc78d_12 : decode cJ1_canEncode_fc78d 12 = .ok (.ireturn, 1) := by decide +kernel
theorem dJ1_inflate_0e8fd_0 : decode cJ1_inflate_0e8fd 0 = .ok (.aload_n 0, 1) := by decide +kernel
theorem dJ1_inflate_0e8fd_1 : decode cJ1_inflate_0e8fd 1 = .ok (.iload_n 1, 1) := by decide +kernel
theorem dJ1_inflate_0e8fd_2 : decode cJ1_inflate_0e8fd 2 = .ok (.aload_n 2, 1) := by decide +kernel
theorem dJ1_inflate_0e8fd_3 : decode cJ1_inflate_0e8fd 3 = .ok (.iload_n 3, 1) := by decide +kernel
theorem dJ1_inflate_0e8fd_4 : decode cJ1_inflate_0e8fd 4 = .ok (.iload 4, 2) := by decide +kernel
theorem dJ1_inflate_0e8fd_6 : decode cJ1_inflate_0e8fd 6 = .ok (.invokestatic 240, 3) := by decide +kernel
theorem dJ1_inflate_0e8fd_9 : decode cJ1_inflate_0e8fd 9 = .ok (.return_, 1) := by decide +kernel
theorem dJ2_newBytesFor_77867_0 : decode cJ2_newBytesFor_77867 0 = .ok (.iload_n 0, 1) := by decide +kernel
theorem dJ2_newBytesFor_77867_1 : decode cJ2_newBytesFor_77867 1 = .ok (.invokestatic 11, 3) := by decide +kernel
theorem dJ2_newBytesFor_77867_4 : decode cJ2_newBytesFor_77867 4 = .ok (.newarray .byte, 2) := by decide +kernel
theorem dJ2_newBytesFor_77867_6 : decode cJ2_newBytesFor_77867 6 = .ok (.areturn, 1) := by decide +kernel
theorem dJ2_newBytesLength_0f7a4_0 : decode cJ2_newBytesLength_0f7a4 0 = .ok (.iload_n 0, 1) := by decide +kernel
theorem dJ2_newBytesLength_0f7a4_1 : decode cJ2_newBytesLength_0f7a4 1 = .ok (.ifCond .ge 11, 3) := by decide +kernel
theorem dJ2_newBytesLength_0f7a4_4 : decode cJ2_newBytesLength_0f7a4 4 = .ok (.new 17, 3) := by decide +kernel
theorem dJ2_newBytesLength_0f7a4_7 : decode cJ2_newBytesLength_0f7a4 7 = .ok (.dup, 1) := by decide +kernel
theorem dJ2_newBytesLength_0f7a4_8 : decode cJ2_newBytesLength_0f7a4 8 = .ok (.invokespecial 19, 3) := by decide +kernel
theorem dJ2_newBytesLength_0f7a4_11 : decode cJ2_newBytesLength_0f7a4 11 = .ok (.athrow, 1) := by decide +kernel
theorem dJ2_newBytesLength_0f7a4_12 : decode cJ2_newBytesLength_0f7a4 12 = .ok (.iload_n 0, 1) := by decide +kernel
theorem dJ2_newBytesLength_0f7a4_13 : decode cJ2_newBytesLength_0f7a4 13 = .ok (.ldc 20, 2) := by decide +kernel
theorem dJ2_newBytesLength_0f7a4_15 : decode cJ2_newBytesLength_0f7a4 15 = .ok (.if_icmp .lt 40, 3) := by decide +kernel
theorem dJ2_newBytesLength_0f7a4_18 : decode cJ2_newBytesLength_0f7a4 18 = .ok (.new 21, 3) := by decide +kernel
theorem dJ2_newBytesLength_0f7a4_21 : decode cJ2_newBytesLength_0f7a4 21 = .ok (.dup, 1) := by decide +kernel
theorem dJ2_newBytesLength_0f7a4_22 : decode cJ2_newBytesLength_0f7a4 22 = .ok (.new 23, 3) := by decide +kernel
theorem dJ2_newBytesLength_0f7a4_25 : decode cJ2_newBytesLength_0f7a4 25 = .ok (.dup, 1) := by decide +kernel
theorem dJ2_newBytesLength_0f7a4_26 : decode cJ2_newBytesLength_0f7a4 26 = .ok (.invokespecial 25, 3) := by decide +kernel
theorem dJ2_newBytesLength_0f7a4_29 : decode cJ2_newBytesLength_0f7a4 29 = .ok (.ldc 26, 2) := by decide +kernel
theorem dJ2_newBytesLength_0f7a4_31 : decode cJ2_newBytesLength_0f7a4 31 = .ok (.invokevirtual 28, 3) := by decide +kernel
theorem dJ2_newBytesLength_0f7a4_34 : decode cJ2_newBytesLength_0f7a4 34 = .ok (.iload_n 0, 1) := by decide +kernel
theorem dJ2_newBytesLength_0f7a4_35 : decode cJ2_newBytesLength_0f7a4 35 = .ok (.invokevirtual 32, 3) := by decide +kernel
theorem dJ2_newBytesLength_0f7a4_38 : decode cJ2_newBytesLength_0f7a4 38 = .ok (.ldc 35, 2) := by decide +kernel
theorem dJ2_newBytesLength_0f7a4_40 : decode cJ2_newBytesLength_0f7a4 40 = .ok (.invokevirtual 28, 3) := by decide +kernel
theorem dJ2_newBytesLength_0f7a4_43 : decode cJ2_newBytesLength_0f7a4 43 = .ok (.ldc 20, 2) := by decide +kernel
theorem dJ2_newBytesLength_0f7a4_45 : decode cJ2_newBytesLength_0f7a4 45 = .ok (.invokevirtual 32, 3) := by decide +kernel
theorem dJ2_newBytesLength_0f7a4_48 : decode cJ2_newBytesLength_0f7a4 48 = .ok (.invokevirtual 37, 3) := by decide +kernel
theorem dJ2_newBytesLength_0f7a4_51 : decode cJ2_newBytesLength_0f7a4 51 = .ok (.invokespecial 41, 3) := by decide +kernel
theorem dJ2_newBytesLength_0f7a4_54 : decode cJ2_newBytesLength_0f7a4 54 = .ok (.athrow, 1) := by decide +kernel
theorem dJ2_newBytesLength_0f7a4_55 : decode cJ2_newBytesLength_0f7a4 55 = .ok (.iload_n 0, 1) := by decide +kernel
theorem dJ2_newBytesLength_0f7a4_56 : decode cJ2_newBytesLength_0f7a4 56 = .ok (.iconst 1, 1) := by decide +kernel
theorem dJ2_newBytesLength_0f7a4_57 : decode cJ2_newBytesLength_0f7a4 57 = .ok (.ishl, 1) := by decide +kernel
theorem dJ2_newBytesLength_0f7a4_58 : decode cJ2_newBytesLength_0f7a4 58 = .ok (.ireturn, 1) := by decide +kernel
theorem dJ2_putChar_b72d1_0 : decode cJ2_putChar_b72d1 0 = .ok (.getstatic 44, 3) := by decide +kernel
theorem dJ2_putChar_b72d1_3 : decode cJ2_putChar_b72d1 3 = .ok (.ifCond .ne 25, 3) := by decide +kernel
theorem dJ2_putChar_b72d1_6 : decode cJ2_putChar_b72d1 6 = .ok (.iload_n 1, 1) := by decide +kernel
theorem dJ2_putChar_b72d1_7 : decode cJ2_putChar_b72d1 7 = .ok (.ifCond .lt 11, 3) := by decide +kernel
theorem dJ2_putChar_b72d1_10 : decode cJ2_putChar_b72d1 10 = .ok (.iload_n 1, 1) := by decide +kernel
theorem dJ2_putChar_b72d1_11 : decode cJ2_putChar_b72d1 11 = .ok (.aload_n 0, 1) := by decide +kernel
theorem dJ2_putChar_b72d1_12 : decode cJ2_putChar_b72d1 12 = .ok (.invokestatic 48, 3) := by decide +kernel
theorem dJ2_putChar_b72d1_15 : decode cJ2_putChar_b72d1 15 = .ok (.if_icmp .lt 13, 3) := by decide +kernel
theorem dJ2_putChar_b72d1_18 : decode cJ2_putChar_b72d1 18 = .ok (.new 52, 3) := by decide +kernel
theorem dJ2_putChar_b72d1_21 : decode cJ2_putChar_b72d1 21 = .ok (.dup, 1) := by decide +kernel
theorem dJ2_putChar_b72d1_22 : decode cJ2_putChar_b72d1 22 = .ok (.ldc 54, 2) := by decide +kernel
theorem dJ2_putChar_b72d1_24 : decode cJ2_putChar_b72d1 24 = .ok (.invokespecial 56, 3) := by decide +kernel
theorem dJ2_putChar_b72d1_27 : decode cJ2_putChar_b72d1 27 = .ok (.athrow, 1) := by decide +kernel
theorem dJ2_putChar_b72d1_28 : decode cJ2_putChar_b72d1 28 = .ok (.iload_n 1, 1) := by decide +kernel
theorem dJ2_putChar_b72d1_29 : decode cJ2_putChar_b72d1 29 = .ok (.iconst 1, 1) := by decide +kernel
theorem dJ2_putChar_b72d1_30 : decode cJ2_putChar_b72d1 30 = .ok (.ishl, 1) := by decide +kernel
theorem dJ2_putChar_b72d1_31 : decode cJ2_putChar_b72d1 31 = .ok (.istore_n 1, 1) := by decide +kernel
theorem dJ2_putChar_b72d1_32 : decode cJ2_putChar_b72d1 32 = .ok (.aload_n 0, 1) := by decide +kernel
theorem dJ2_putChar_b72d1_33 : decode cJ2_putChar_b72d1 33 = .ok (.iload_n 1, 1) := by decide +kernel
theorem dJ2_putChar_b72d1_34 : decode cJ2_putChar_b72d1 34 = .ok (.iinc 1 1, 3) := by decide +kernel
theorem dJ2_putChar_b72d1_37 : decode cJ2_putChar_b72d1 37 = .ok (.iload_n 2, 1) := by decide +kernel
theorem dJ2_putChar_b72d1_38 : decode cJ2_putChar_b72d1 38 = .ok (.getstatic 59, 3) := by decide +kernel
theorem dJ2_putChar_b72d1_41 : decode cJ2_putChar_b72d1 41 = .ok (.ishr, 1) := by decide +kernel
theorem dJ2_putChar_b72d1_42 : decode cJ2_putChar_b72d1 42 = .ok (.i2b, 1) := by decide +kernel
theorem dJ2_putChar_b72d1_43 : decode cJ2_putChar_b72d1 43 = .ok (.bastore, 1) := by decide +kernel
theorem dJ2_putChar_b72d1_44 : decode cJ2_putChar_b72d1 44 = .ok (.aload_n 0, 1) := by decide +kernel
theorem dJ2_putChar_b72d1_45 : decode cJ2_putChar_b72d1 45 = .ok (.iload_n 1, 1) := by decide +kernel
theorem dJ2_putChar_b72d1_46 : decode cJ2_putChar_b72d1 46 = .ok (.iload_n 2, 1) := by decide +kernel
theorem dJ2_putChar_b72d1_47 : decode cJ2_putChar_b72d1 47 = .ok (.getstatic 63, 3) := by decide +kernel
theorem dJ2_putChar_b72d1_50 : decode cJ2_putChar_b72d1 50 = .ok (.ishr, 1) := by decide +kernel
theorem dJ2_putChar_b72d1_51 : decode cJ2_putChar_b72d1 51 = .ok (.i2b, 1) := by decide +kernel
theorem dJ2_putChar_b72d1_52 : decode cJ2_putChar_b72d1 52 = .ok (.bastore, 1) := by decide +kernel
theorem dJ2_putChar_b72d1_53 : decode cJ2_putChar_b72d1 53 = .ok (.return_, 1) := by decide +kernel
theorem dJ2_getChar_3b067_0 : decode cJ2_getChar_3b067 0 = .ok (.getstatic 44, 3) := by decide +kernel
theorem dJ2_getChar_3b067_3 : decode cJ2_getChar_3b067 3 = .ok (.ifCond .ne 25, 3) := by decide +kernel
theorem dJ2_getChar_3b067_6 : decode cJ2_getChar_3b067 6 = .ok (.iload_n 1, 1) := by decide +kernel
theorem dJ2_getChar_3b067_7 : decode cJ2_getChar_3b067 7 = .ok (.ifCond .lt 11, 3) := by decide +kernel
theorem dJ2_getChar_3b067_10 : decode cJ2_getChar_3b067 10 = .ok (.iload_n 1, 1) := by decide +kernel
theorem dJ2_getChar_3b067_11 : decode cJ2_getChar_3b067 11 = .ok (.aload_n 0, 1) := by decide +kernel
theorem dJ2_getChar_3b067_12 : decode cJ2_getChar_3b067 12 = .ok (.invokestatic 48, 3) := by decide +kernel
theorem dJ2_getChar_3b067_15 : decode cJ2_getChar_3b067 15 = .ok (.if_icmp .lt 13, 3) := by decide +kernel
theorem dJ2_getChar_3b067_18 : decode cJ2_getChar_3b067 18 = .ok (.new 52, 3) := by decide +kernel
theorem dJ2_getChar_3b067_21 : decode cJ2_getChar_3b067 21 = .ok (.dup, 1) := by decide +kernel
theorem dJ2_getChar_3b067_22 : decode cJ2_getChar_3b067 22 = .ok (.ldc 54, 2) := by decide +kernel
theorem dJ2_getChar_3b067_24 : decode cJ2_getChar_3b067 24 = .ok (.invokespecial 56, 3) := by decide +kernel
theorem dJ2_getChar_3b067_27 : decode cJ2_getChar_3b067 27 = .ok (.athrow, 1) := by decide +kernel
theorem dJ2_getChar_3b067_28 : decode cJ2_getChar_3b067 28 = .ok (.iload_n 1, 1) := by decide +kernel
theorem dJ2_getChar_3b067_29 : decode cJ2_getChar_3b067 29 = .ok (.iconst 1, 1) := by decide +kernel
theorem dJ2_getChar_3b067_30 : decode cJ2_getChar_3b067 30 = .ok (.ishl, 1) := by decide +kernel
theorem dJ2_getChar_3b067_31 : decode cJ2_getChar_3b067 31 = .ok (.istore_n 1, 1) := by decide +kernel
theorem dJ2_getChar_3b067_32 : decode cJ2_getChar_3b067 32 = .ok (.aload_n 0, 1) := by decide +kernel
theorem dJ2_getChar_3b067_33 : decode cJ2_getChar_3b067 33 = .ok (.iload_n 1, 1) := by decide +kernel
theorem dJ2_getChar_3b067_34 : decode cJ2_getChar_3b067 34 = .ok (.iinc 1 1, 3) := by decide +kernel
theorem dJ2_getChar_3b067_37 : decode cJ2_getChar_3b067 37 = .ok (.baload, 1) := by decide +kernel
theorem dJ2_getChar_3b067_38 : decode cJ2_getChar_3b067 38 = .ok (.sipush 255, 3) := by decide +kernel
theorem dJ2_getChar_3b067_41 : decode cJ2_getChar_3b067 41 = .ok (.iand, 1) := by decide +kernel
theorem dJ2_getChar_3b067_42 : decode cJ2_getChar_3b067 42 = .ok (.getstatic 59, 3) := by decide +kernel
theorem dJ2_getChar_3b067_45 : decode cJ2_getChar_3b067 45 = .ok (.ishl, 1) := by decide +kernel
theorem dJ2_getChar_3b067_46 : decode cJ2_getChar_3b067 46 = .ok (.aload_n 0, 1) := by decide +kernel
theorem dJ2_getChar_3b067_47 : decode cJ2_getChar_3b067 47 = .ok (.iload_n 1, 1) := by decide +kernel
theorem dJ2_getChar_3b067_48 : decode cJ2_getChar_3b067 48 = .ok (.baload, 1) := by decide +kernel
theorem dJ2_getChar_3b067_49 : decode cJ2_getChar_3b067 49 = .ok (.sipush 255, 3) := by decide +kernel
theorem dJ2_getChar_3b067_52 : decode cJ2_getChar_3b067 52 = .ok (.iand, 1) := by decide +kernel
theorem dJ2_getChar_3b067_53 : decode cJ2_getChar_3b067 53 = .ok (.getstatic 63, 3) := by decide +kernel
theorem dJ2_getChar_3b067_56 : decode cJ2_getChar_3b067 56 = .ok (.ishl, 1) := by decide +kernel
theorem dJ2_getChar_3b067_57 : decode cJ2_getChar_3b067 57 = .ok (.ior, 1) := by decide +kernel
theorem dJ2_getChar_3b067_58 : decode cJ2_getChar_3b067 58 = .ok (.i2c, 1) := by decide +kernel
theorem dJ2_getChar_3b067_59 : decode cJ2_getChar_3b067 59 = .ok (.ireturn, 1) := by decide +kernel
theorem dJ2_length_9d52b_0 : decode cJ2_length_9d52b 0 = .ok (.aload_n 0, 1) := by decide +kernel
theorem dJ2_length_9d52b_1 : decode cJ2_length_9d52b 1 = .ok (.arraylength, 1) := by decide +kernel
theorem dJ2_length_9d52b_2 : decode cJ2_length_9d52b 2 = .ok (.iconst 1, 1) := by decide +kernel
theorem dJ2_length_9d52b_3 : decode cJ2_length_9d52b 3 = .ok (.ishr, 1) := by decide +kernel
theorem dJ2_length_9d52b_4 : decode cJ2_length_9d52b 4 = .ok (.ireturn, 1) := by decide +kernel
theorem dJ2_coderFromArrayLen_85cad_0 : decode cJ2_coderFromArrayLen_85cad 0 = .ok (.iload_n 1, 1) := by decide +kernel
theorem dJ2_coderFromArrayLen_85cad_1 : decode cJ2_coderFromArrayLen_85cad 1 = .ok (.aload_n 0, 1) := by decide +kernel
theorem dJ2_coderFromArrayLen_85cad_2 : decode cJ2_coderFromArrayLen_85cad 2 = .ok (.arraylength, 1) := by decide +kernel
theorem dJ2_coderFromArrayLen_85cad_3 : decode cJ2_coderFromArrayLen_85cad 3 = .ok (.isub, 1) := by decide +kernel
theorem dJ2_coderFromArrayLen_85cad_4 : decode cJ2_coderFromArrayLen_85cad 4 = .ok (.bipush 31, 2) := by decide +kernel
theorem dJ2_coderFromArrayLen_85cad_6 : decode cJ2_coderFromArrayLen_85cad 6 = .ok (.iushr, 1) := by decide +kernel
theorem dJ2_coderFromArrayLen_85cad_7 : decode cJ2_coderFromArrayLen_85cad 7 = .ok (.i2b, 1) := by decide +kernel
theorem dJ2_coderFromArrayLen_85cad_8 : decode cJ2_coderFromArrayLen_85cad 8 = .ok (.ireturn, 1) := by decide +kernel
theorem dJ2_compress_39247_0 : decode cJ2_compress_39247 0 = .ok (.iload_n 2, 1) := by decide +kernel
theorem dJ2_compress_39247_1 : decode cJ2_compress_39247 1 = .ok (.newarray .byte, 2) := by decide +kernel
theorem dJ2_compress_39247_3 : decode cJ2_compress_39247 3 = .ok (.astore_n 3, 1) := by decide +kernel
theorem dJ2_compress_39247_4 : decode cJ2_compress_39247 4 = .ok (.aload_n 0, 1) := by decide +kernel
theorem dJ2_compress_39247_5 : decode cJ2_compress_39247 5 = .ok (.iload_n 1, 1) := by decide +kernel
theorem dJ2_compress_39247_6 : decode cJ2_compress_39247 6 = .ok (.aload_n 3, 1) := by decide +kernel
theorem dJ2_compress_39247_7 : decode cJ2_compress_39247 7 = .ok (.iconst 0, 1) := by decide +kernel
theorem dJ2_compress_39247_8 : decode cJ2_compress_39247 8 = .ok (.iload_n 2, 1) := by decide +kernel
theorem dJ2_compress_39247_9 : decode cJ2_compress_39247 9 = .ok (.invokestatic 123, 3) := by decide +kernel
theorem dJ2_compress_39247_12 : decode cJ2_compress_39247 12 = .ok (.istore 4, 2) := by decide +kernel
theorem dJ2_compress_39247_14 : decode cJ2_compress_39247 14 = .ok (.iload 4, 2) := by decide +kernel
theorem dJ2_compress_39247_16 : decode cJ2_compress_39247 16 = .ok (.iload_n 2, 1) := by decide +kernel
theorem dJ2_compress_39247_17 : decode cJ2_compress_39247 17 = .ok (.if_icmp .eq 47, 3) := by decide +kernel
theorem dJ2_compress_39247_20 : decode cJ2_compress_39247 20 = .ok (.aload_n 0, 1) := by decide +kernel
theorem dJ2_compress_39247_21 : decode cJ2_compress_39247 21 = .ok (.iload_n 1, 1) := by decide +kernel
theorem dJ2_compress_39247_22 : decode cJ2_compress_39247 22 = .ok (.iconst 1, 1) := by decide +kernel
theorem dJ2_compress_39247_23 : decode cJ2_compress_39247 23 = .ok (.ishl, 1) := by decide +kernel
theorem dJ2_compress_39247_24 : decode cJ2_compress_39247 24 = .ok (.iload_n 1, 1) := by decide +kernel
theorem dJ2_compress_39247_25 : decode cJ2_compress_39247 25 = .ok (.iload_n 2, 1) := by decide +kernel
theorem dJ2_compress_39247_26 : decode cJ2_compress_39247 26 = .ok (.iadd, 1) := by decide +kernel
theorem dJ2_compress_39247_27 : decode cJ2_compress_39247 27 = .ok (.invokestatic 11, 3) := by decide +kernel
theorem dJ2_compress_39247_30 : decode cJ2_compress_39247 30 = .ok (.invokestatic 126, 3) := by decide +kernel
theorem dJ2_compress_39247_33 : decode cJ2_compress_39247 33 = .ok (.astore 5, 2) := by decide +kernel
theorem dJ2_compress_39247_35 : decode cJ2_compress_39247 35 = .ok (.aload 5, 2) := by decide +kernel
theorem dJ2_compress_39247_37 : decode cJ2_compress_39247 37 = .ok (.iload 4, 2) := by decide +kernel
theorem dJ2_compress_39247_39 : decode cJ2_compress_39247 39 = .ok (.invokestatic 71, 3) := by decide +kernel
theorem dJ2_compress_39247_42 : decode cJ2_compress_39247 42 = .ok (.sipush 255, 3) := by decide +kernel
theorem dJ2_compress_39247_45 : decode cJ2_compress_39247 45 = .ok (.if_icmp .gt 16, 3) := by decide +kernel
theorem dJ2_compress_39247_48 : decode cJ2_compress_39247 48 = .ok (.aload 5, 2) := by decide +kernel
theorem dJ2_compress_39247_50 : decode cJ2_compress_39247 50 = .ok (.iconst 0, 1) := by decide +kernel
theorem dJ2_compress_39247_51 : decode cJ2_compress_39247 51 = .ok (.aload_n 3, 1) := by decide +kernel
theorem dJ2_compress_39247_52 : decode cJ2_compress_39247 52 = .ok (.iconst 0, 1) := by decide +kernel
theorem dJ2_compress_39247_53 : decode cJ2_compress_39247 53 = .ok (.iload_n 2, 1) := by decide +kernel
theorem dJ2_compress_39247_54 : decode cJ2_compress_39247 54 = .ok (.invokestatic 123, 3) := by decide +kernel
theorem dJ2_compress_39247_57 : decode cJ2_compress_39247 57 = .ok (.iload_n 2, 1) := by decide +kernel
theorem dJ2_compress_39247_58 : decode cJ2_compress_39247 58 = .ok (.if_icmp .eq 6, 3) := by decide +kernel
theorem dJ2_compress_39247_61 : decode cJ2_compress_39247 61 = .ok (.aload 5, 2) := by decide +kernel
theorem dJ2_compress_39247_63 : decode cJ2_compress_39247 63 = .ok (.areturn, 1) := by decide +kernel
theorem dJ2_compress_39247_64 : decode cJ2_compress_39247 64 = .ok (.aload_n 3, 1) := by decide +kernel
theorem dJ2_compress_39247_65 : decode cJ2_compress_39247 65 = .ok (.areturn, 1) := by decide +kernel
theorem dJ2_compress_5af95_0 : decode cJ2_compress_5af95 0 = .ok (.iload_n 1, 1) := by decide +kernel
theorem dJ2_compress_5af95_1 : decode cJ2_compress_5af95 1 = .ok (.iload 4, 2) := by decide +kernel
theorem dJ2_compress_5af95_3 : decode cJ2_compress_5af95 3 = .ok (.aload_n 0, 1) := by decide +kernel
theorem dJ2_compress_5af95_4 : decode cJ2_compress_5af95 4 = .ok (.invokestatic 173, 3) := by decide +kernel
theorem dJ2_compress_5af95_7 : decode cJ2_compress_5af95 7 = .ok (.iconst 0, 1) := by decide +kernel
theorem dJ2_compress_5af95_8 : decode cJ2_compress_5af95 8 = .ok (.istore 5, 2) := by decide +kernel
theorem dJ2_compress_5af95_10 : decode cJ2_compress_5af95 10 = .ok (.iload 5, 2) := by decide +kernel
theorem dJ2_compress_5af95_12 : decode cJ2_compress_5af95 12 = .ok (.iload 4, 2) := by decide +kernel
theorem dJ2_compress_5af95_14 : decode cJ2_compress_5af95 14 = .ok (.if_icmp .ge 39, 3) := by decide +kernel
theorem dJ2_compress_5af95_17 : decode cJ2_compress_5af95 17 = .ok (.aload_n 0, 1) := by decide +kernel
theorem dJ2_compress_5af95_18 : decode cJ2_compress_5af95 18 = .ok (.iload_n 1, 1) := by decide +kernel
theorem dJ2_compress_5af95_19 : decode cJ2_compress_5af95 19 = .ok (.invokestatic 71, 3) := by decide +kernel
theorem dJ2_compress_5af95_22 : decode cJ2_compress_5af95 22 = .ok (.istore 6, 2) := by decide +kernel
theorem dJ2_compress_5af95_24 : decode cJ2_compress_5af95 24 = .ok (.iload 6, 2) := by decide +kernel
theorem dJ2_compress_5af95_26 : decode cJ2_compress_5af95 26 = .ok (.sipush 255, 3) := by decide +kernel
theorem dJ2_compress_5af95_29 : decode cJ2_compress_5af95 29 = .ok (.if_icmp .le 6, 3) := by decide +kernel
theorem dJ2_compress_5af95_32 : decode cJ2_compress_5af95 32 = .ok (.iload 5, 2) := by decide +kernel
theorem dJ2_compress_5af95_34 : decode cJ2_compress_5af95 34 = .ok (.ireturn, 1) := by decide +kernel
theorem dJ2_compress_5af95_35 : decode cJ2_compress_5af95 35 = .ok (.aload_n 2, 1) := by decide +kernel
theorem dJ2_compress_5af95_36 : decode cJ2_compress_5af95 36 = .ok (.iload_n 3, 1) := by decide +kernel
theorem dJ2_compress_5af95_37 : decode cJ2_compress_5af95 37 = .ok (.iload 6, 2) := by decide +kernel
theorem dJ2_compress_5af95_39 : decode cJ2_compress_5af95 39 = .ok (.i2b, 1) := by decide +kernel
theorem dJ2_compress_5af95_40 : decode cJ2_compress_5af95 40 = .ok (.bastore, 1) := by decide +kernel
theorem dJ2_compress_5af95_41 : decode cJ2_compress_5af95 41 = .ok (.iinc 1 1, 3) := by decide +kernel
theorem dJ2_compress_5af95_44 : decode cJ2_compress_5af95 44 = .ok (.iinc 3 1, 3) := by decide +kernel
theorem dJ2_compress_5af95_47 : decode cJ2_compress_5af95 47 = .ok (.iinc 5 1, 3) := by decide +kernel
theorem dJ2_compress_5af95_50 : decode cJ2_compress_5af95 50 = .ok (.goto (-40), 3) := by decide +kernel
theorem dJ2_compress_5af95_53 : decode cJ2_compress_5af95 53 = .ok (.iload 4, 2) := by decide +kernel
theorem dJ2_compress_5af95_55 : decode cJ2_compress_5af95 55 = .ok (.ireturn, 1) := by decide +kernel
theorem dJ2_putCharSB_b72d1_0 : decode cJ2_putCharSB_b72d1 0 = .ok (.iload_n 1, 1) := by decide +kernel
theorem dJ2_putCharSB_b72d1_1 : decode cJ2_putCharSB_b72d1 1 = .ok (.aload_n 0, 1) := by decide +kernel
theorem dJ2_putCharSB_b72d1_2 : decode cJ2_putCharSB_b72d1 2 = .ok (.invokestatic 67, 3) := by decide +kernel
theorem dJ2_putCharSB_b72d1_5 : decode cJ2_putCharSB_b72d1 5 = .ok (.aload_n 0, 1) := by decide +kernel
theorem dJ2_putCharSB_b72d1_6 : decode cJ2_putCharSB_b72d1 6 = .ok (.iload_n 1, 1) := by decide +kernel
theorem dJ2_putCharSB_b72d1_7 : decode cJ2_putCharSB_b72d1 7 = .ok (.iload_n 2, 1) := by decide +kernel
theorem dJ2_putCharSB_b72d1_8 : decode cJ2_putCharSB_b72d1 8 = .ok (.invokestatic 111, 3) := by decide +kernel
theorem dJ2_putCharSB_b72d1_11 : decode cJ2_putCharSB_b72d1 11 = .ok (.return_, 1) := by decide +kernel
theorem dJ2_getChars_46870_0 : decode cJ2_getChars_46870 0 = .ok (.iload_n 1, 1) := by decide +kernel
theorem dJ2_getChars_46870_1 : decode cJ2_getChars_46870 1 = .ok (.iload_n 2, 1) := by decide +kernel
theorem dJ2_getChars_46870_2 : decode cJ2_getChars_46870 2 = .ok (.aload_n 3, 1) := by decide +kernel
theorem dJ2_getChars_46870_3 : decode cJ2_getChars_46870 3 = .ok (.invokestatic 96, 3) := by decide +kernel
theorem dJ2_getChars_46870_6 : decode cJ2_getChars_46870 6 = .ok (.iload_n 0, 1) := by decide +kernel
theorem dJ2_getChars_46870_7 : decode cJ2_getChars_46870 7 = .ok (.iload_n 2, 1) := by decide +kernel
theorem dJ2_getChars_46870_8 : decode cJ2_getChars_46870 8 = .ok (.aload_n 3, 1) := by decide +kernel
theorem dJ2_getChars_46870_9 : decode cJ2_getChars_46870 9 = .ok (.invokestatic 393, 3) := by decide +kernel
theorem dJ2_getChars_46870_12 : decode cJ2_getChars_46870 12 = .ok (.istore 4, 2) := by decide +kernel
theorem dJ2_getChars_46870_14 : decode cJ2_getChars_46870 14 = .ok (.getstatic 44, 3) := by decide +kernel
theorem dJ2_getChars_46870_17 : decode cJ2_getChars_46870 17 = .ok (.ifCond .ne 17, 3) := by decide +kernel
theorem dJ2_getChars_46870_20 : decode cJ2_getChars_46870 20 = .ok (.iload_n 1, 1) := by decide +kernel
theorem dJ2_getChars_46870_21 : decode cJ2_getChars_46870 21 = .ok (.iload 4, 2) := by decide +kernel
theorem dJ2_getChars_46870_23 : decode cJ2_getChars_46870 23 = .ok (.if_icmp .eq 11, 3) := by decide +kernel
theorem dJ2_getChars_46870_26 : decode cJ2_getChars_46870 26 = .ok (.new 52, 3) := by decide +kernel
theorem dJ2_getChars_46870_29 : decode cJ2_getChars_46870 29 = .ok (.dup, 1) := by decide +kernel
theorem dJ2_getChars_46870_30 : decode cJ2_getChars_46870 30 = .ok (.invokespecial 66, 3) := by decide +kernel
theorem dJ2_getChars_46870_33 : decode cJ2_getChars_46870 33 = .ok (.athrow, 1) := by decide +kernel
theorem dJ2_getChars_46870_34 : decode cJ2_getChars_46870 34 = .ok (.iload 4, 2) := by decide +kernel
theorem dJ2_getChars_46870_36 : decode cJ2_getChars_46870 36 = .ok (.ireturn, 1) := by decide +kernel
theorem dJ2_putCharsAt_cd4e5_0 : decode cJ2_putCharsAt_cd4e5 0 = .ok (.iload_n 1, 1) := by decide +kernel
theorem dJ2_putCharsAt_cd4e5_1 : decode cJ2_putCharsAt_cd4e5 1 = .ok (.iconst 4, 1) := by decide +kernel
theorem dJ2_putCharsAt_cd4e5_2 : decode cJ2_putCharsAt_cd4e5 2 = .ok (.iadd, 1) := by decide +kernel
theorem dJ2_putCharsAt_cd4e5_3 : decode cJ2_putCharsAt_cd4e5 3 = .ok (.istore 6, 2) := by decide +kernel
theorem dJ2_putCharsAt_cd4e5_5 : decode cJ2_putCharsAt_cd4e5 5 = .ok (.iload_n 1, 1) := by decide +kernel
theorem dJ2_putCharsAt_cd4e5_6 : decode cJ2_putCharsAt_cd4e5 6 = .ok (.iload 6, 2) := by decide +kernel
theorem dJ2_putCharsAt_cd4e5_8 : decode cJ2_putCharsAt_cd4e5 8 = .ok (.aload_n 0, 1) := by decide +kernel
theorem dJ2_putCharsAt_cd4e5_9 : decode cJ2_putCharsAt_cd4e5 9 = .ok (.invokestatic 96, 3) := by decide +kernel
theorem dJ2_putCharsAt_cd4e5_12 : decode cJ2_putCharsAt_cd4e5 12 = .ok (.aload_n 0, 1) := by decide +kernel
theorem dJ2_putCharsAt_cd4e5_13 : decode cJ2_putCharsAt_cd4e5 13 = .ok (.iload_n 1, 1) := by decide +kernel
theorem dJ2_putCharsAt_cd4e5_14 : decode cJ2_putCharsAt_cd4e5 14 = .ok (.iinc 1 1, 3) := by decide +kernel
theorem dJ2_putCharsAt_cd4e5_17 : decode cJ2_putCharsAt_cd4e5 17 = .ok (.iload_n 2, 1) := by decide +kernel
theorem dJ2_putCharsAt_cd4e5_18 : decode cJ2_putCharsAt_cd4e5 18 = .ok (.invokestatic 111, 3) := by decide +kernel
theorem dJ2_putCharsAt_cd4e5_21 : decode cJ2_putCharsAt_cd4e5 21 = .ok (.aload_n 0, 1) := by decide +kernel
theorem dJ2_putCharsAt_cd4e5_22 : decode cJ2_putCharsAt_cd4e5 22 = .ok (.iload_n 1, 1) := by decide +kernel
theorem dJ2_putCharsAt_cd4e5_23 : decode cJ2_putCharsAt_cd4e5 23 = .ok (.iinc 1 1, 3) := by decide +kernel
theorem dJ2_putCharsAt_cd4e5_26 : decode cJ2_putCharsAt_cd4e5 26 = .ok (.iload_n 3, 1) := by decide +kernel
theorem dJ2_putCharsAt_cd4e5_27 : decode cJ2_putCharsAt_cd4e5 27 = .ok (.invokestatic 111, 3) := by decide +kernel
theorem dJ2_putCharsAt_cd4e5_30 : decode cJ2_putCharsAt_cd4e5 30 = .ok (.aload_n 0, 1) := by decide +kernel
theorem dJ2_putCharsAt_cd4e5_31 : decode cJ2_putCharsAt_cd4e5 31 = .ok (.iload_n 1, 1) := by decide +kernel
theorem dJ2_putCharsAt_cd4e5_32 : decode cJ2_putCharsAt_cd4e5 32 = .ok (.iinc 1 1, 3) := by decide +kernel
theorem dJ2_putCharsAt_cd4e5_35 : decode cJ2_putCharsAt_cd4e5 35 = .ok (.iload 4, 2) := by decide +kernel
theorem dJ2_putCharsAt_cd4e5_37 : decode cJ2_putCharsAt_cd4e5 37 = .ok (.invokestatic 111, 3) := by decide +kernel
theorem dJ2_putCharsAt_cd4e5_40 : decode cJ2_putCharsAt_cd4e5 40 = .ok (.aload_n 0, 1) := by decide +kernel
theorem dJ2_putCharsAt_cd4e5_41 : decode cJ2_putCharsAt_cd4e5 41 = .ok (.iload_n 1, 1) := by decide +kernel
theorem dJ2_putCharsAt_cd4e5_42 : decode cJ2_putCharsAt_cd4e5 42 = .ok (.iinc 1 1, 3) := by decide +kernel
theorem dJ2_putCharsAt_cd4e5_45 : decode cJ2_putCharsAt_cd4e5 45 = .ok (.iload 5, 2) := by decide +kernel
theorem dJ2_putCharsAt_cd4e5_47 : decode cJ2_putCharsAt_cd4e5 47 = .ok (.invokestatic 111, 3) := by decide +kernel
theorem dJ2_putCharsAt_cd4e5_50 : decode cJ2_putCharsAt_cd4e5 50 = .ok (.getstatic 44, 3) := by decide +kernel
theorem dJ2_putCharsAt_cd4e5_53 : decode cJ2_putCharsAt_cd4e5 53 = .ok (.ifCond .ne 17, 3) := by decide +kernel
theorem dJ2_putCharsAt_cd4e5_56 : decode cJ2_putCharsAt_cd4e5 56 = .ok (.iload_n 1, 1) := by decide +kernel
theorem dJ2_putCharsAt_cd4e5_57 : decode cJ2_putCharsAt_cd4e5 57 = .ok (.iload 6, 2) := by decide +kernel
theorem dJ2_putCharsAt_cd4e5_59 : decode cJ2_putCharsAt_cd4e5 59 = .ok (.if_icmp .eq 11, 3) := by decide +kernel
theorem dJ2_putCharsAt_cd4e5_62 : decode cJ2_putCharsAt_cd4e5 62 = .ok (.new 52, 3) := by decide +kernel
theorem dJ2_putCharsAt_cd4e5_65 : decode cJ2_putCharsAt_cd4e5 65 = .ok (.dup, 1) := by decide +kernel
theorem dJ2_putCharsAt_cd4e5_66 : decode cJ2_putCharsAt_cd4e5 66 = .ok (.invokespecial 66, 3) := by decide +kernel
theorem dJ2_putCharsAt_cd4e5_69 : decode cJ2_putCharsAt_cd4e5 69 = .ok (.athrow, 1) := by decide +kernel
theorem dJ2_putCharsAt_cd4e5_70 : decode cJ2_putCharsAt_cd4e5 70 = .ok (.iload 6, 2) := by decide +kernel
theorem dJ2_putCharsAt_cd4e5_72 : decode cJ2_putCharsAt_cd4e5 72 = .ok (.ireturn, 1) := by decide +kernel
theorem dJ2_charAt_3b067_0 : decode cJ2_charAt_3b067 0 = .ok (.iload_n 1, 1) := by decide +kernel
theorem dJ2_charAt_3b067_1 : decode cJ2_charAt_3b067 1 = .ok (.aload_n 0, 1) := by decide +kernel
theorem dJ2_charAt_3b067_2 : decode cJ2_charAt_3b067 2 = .ok (.invokestatic 67, 3) := by decide +kernel
theorem dJ2_charAt_3b067_5 : decode cJ2_charAt_3b067 5 = .ok (.aload_n 0, 1) := by decide +kernel
theorem dJ2_charAt_3b067_6 : decode cJ2_charAt_3b067 6 = .ok (.iload_n 1, 1) := by decide +kernel
theorem dJ2_charAt_3b067_7 : decode cJ2_charAt_3b067 7 = .ok (.invokestatic 71, 3) := by decide +kernel
theorem dJ2_charAt_3b067_10 : decode cJ2_charAt_3b067 10 = .ok (.ireturn, 1) := by decide +kernel
theorem dJ2_inflate_0e8fd_0 : decode cJ2_inflate_0e8fd 0 = .ok (.iload_n 3, 1) := by decide +kernel
theorem dJ2_inflate_0e8fd_1 : decode cJ2_inflate_0e8fd 1 = .ok (.iload 4, 2) := by decide +kernel
theorem dJ2_inflate_0e8fd_3 : decode cJ2_inflate_0e8fd 3 = .ok (.aload_n 2, 1) := by decide +kernel
theorem dJ2_inflate_0e8fd_4 : decode cJ2_inflate_0e8fd 4 = .ok (.invokestatic 173, 3) := by decide +kernel
theorem dJ2_inflate_0e8fd_7 : decode cJ2_inflate_0e8fd 7 = .ok (.iconst 0, 1) := by decide +kernel
theorem dJ2_inflate_0e8fd_8 : decode cJ2_inflate_0e8fd 8 = .ok (.istore 5, 2) := by decide +kernel
theorem dJ2_inflate_0e8fd_10 : decode cJ2_inflate_0e8fd 10 = .ok (.iload 5, 2) := by decide +kernel
theorem dJ2_inflate_0e8fd_12 : decode cJ2_inflate_0e8fd 12 = .ok (.iload 4, 2) := by decide +kernel
theorem dJ2_inflate_0e8fd_14 : decode cJ2_inflate_0e8fd 14 = .ok (.if_icmp .ge 27, 3) := by decide +kernel
theorem dJ2_inflate_0e8fd_17 : decode cJ2_inflate_0e8fd 17 = .ok (.aload_n 2, 1) := by decide +kernel
theorem dJ2_inflate_0e8fd_18 : decode cJ2_inflate_0e8fd 18 = .ok (.iload_n 3, 1) := by decide +kernel
theorem dJ2_inflate_0e8fd_19 : decode cJ2_inflate_0e8fd 19 = .ok (.iinc 3 1, 3) := by decide +kernel
theorem dJ2_inflate_0e8fd_22 : decode cJ2_inflate_0e8fd 22 = .ok (.aload_n 0, 1) := by decide +kernel
theorem dJ2_inflate_0e8fd_23 : decode cJ2_inflate_0e8fd 23 = .ok (.iload_n 1, 1) := by decide +kernel
theorem dJ2_inflate_0e8fd_24 : decode cJ2_inflate_0e8fd 24 = .ok (.iinc 1 1, 3) := by decide +kernel
theorem dJ2_inflate_0e8fd_27 : decode cJ2_inflate_0e8fd 27 = .ok (.baload, 1) := by decide +kernel
theorem dJ2_inflate_0e8fd_28 : decode cJ2_inflate_0e8fd 28 = .ok (.sipush 255, 3) := by decide +kernel
theorem dJ2_inflate_0e8fd_31 : decode cJ2_inflate_0e8fd 31 = .ok (.iand, 1) := by decide +kernel
theorem dJ2_inflate_0e8fd_32 : decode cJ2_inflate_0e8fd 32 = .ok (.invokestatic 111, 3) := by decide +kernel
theorem dJ2_inflate_0e8fd_35 : decode cJ2_inflate_0e8fd 35 = .ok (.iinc 5 1, 3) := by decide +kernel
theorem dJ2_inflate_0e8fd_38 : decode cJ2_inflate_0e8fd 38 = .ok (.goto (-28), 3) := by decide +kernel
theorem dJ2_inflate_0e8fd_41 : decode cJ2_inflate_0e8fd 41 = .ok (.return_, 1) := by decide +kernel
theorem dJ2_getChars_ba4f3_0 : decode cJ2_getChars_ba4f3 0 = .ok (.iload_n 1, 1) := by decide +kernel
theorem dJ2_getChars_ba4f3_1 : decode cJ2_getChars_ba4f3 1 = .ok (.istore 5, 2) := by decide +kernel
theorem dJ2_getChars_ba4f3_3 : decode cJ2_getChars_ba4f3 3 = .ok (.iload_n 0, 1) := by decide +kernel
theorem dJ2_getChars_ba4f3_4 : decode cJ2_getChars_ba4f3 4 = .ok (.ifCond .ge 7, 3) := by decide +kernel
theorem dJ2_getChars_ba4f3_7 : decode cJ2_getChars_ba4f3 7 = .ok (.iconst 1, 1) := by decide +kernel
theorem dJ2_getChars_ba4f3_8 : decode cJ2_getChars_ba4f3 8 = .ok (.goto 4, 3) := by decide +kernel
theorem dJ2_getChars_ba4f3_11 : decode cJ2_getChars_ba4f3 11 = .ok (.iconst 0, 1) := by decide +kernel
theorem dJ2_getChars_ba4f3_12 : decode cJ2_getChars_ba4f3 12 = .ok (.istore 6, 2) := by decide +kernel
theorem dJ2_getChars_ba4f3_14 : decode cJ2_getChars_ba4f3 14 = .ok (.iload 6, 2) := by decide +kernel
theorem dJ2_getChars_ba4f3_16 : decode cJ2_getChars_ba4f3 16 = .ok (.ifCond .ne 6, 3) := by decide +kernel
theorem dJ2_getChars_ba4f3_19 : decode cJ2_getChars_ba4f3 19 = .ok (.iload_n 0, 1) := by decide +kernel
theorem dJ2_getChars_ba4f3_20 : decode cJ2_getChars_ba4f3 20 = .ok (.ineg, 1) := by decide +kernel
theorem dJ2_getChars_ba4f3_21 : decode cJ2_getChars_ba4f3 21 = .ok (.istore_n 0, 1) := by decide +kernel
theorem dJ2_getChars_ba4f3_22 : decode cJ2_getChars_ba4f3 22 = .ok (.iload_n 0, 1) := by decide +kernel
theorem dJ2_getChars_ba4f3_23 : decode cJ2_getChars_ba4f3 23 = .ok (.bipush (-100), 2) := by decide +kernel
theorem dJ2_getChars_ba4f3_25 : decode cJ2_getChars_ba4f3 25 = .ok (.if_icmp .gt 51, 3) := by decide +kernel
theorem dJ2_getChars_ba4f3_28 : decode cJ2_getChars_ba4f3 28 = .ok (.iload_n 0, 1) := by decide +kernel
theorem dJ2_getChars_ba4f3_29 : decode cJ2_getChars_ba4f3 29 = .ok (.bipush 100, 2) := by decide +kernel
theorem dJ2_getChars_ba4f3_31 : decode cJ2_getChars_ba4f3 31 = .ok (.idiv, 1) := by decide +kernel
theorem dJ2_getChars_ba4f3_32 : decode cJ2_getChars_ba4f3 32 = .ok (.istore_n 3, 1) := by decide +kernel
theorem dJ2_getChars_ba4f3_33 : decode cJ2_getChars_ba4f3 33 = .ok (.iload_n 3, 1) := by decide +kernel
theorem dJ2_getChars_ba4f3_34 : decode cJ2_getChars_ba4f3 34 = .ok (.bipush 100, 2) := by decide +kernel
theorem dJ2_getChars_ba4f3_36 : decode cJ2_getChars_ba4f3 36 = .ok (.imul, 1) := by decide +kernel
theorem dJ2_getChars_ba4f3_37 : decode cJ2_getChars_ba4f3 37 = .ok (.iload_n 0, 1) := by decide +kernel
theorem dJ2_getChars_ba4f3_38 : decode cJ2_getChars_ba4f3 38 = .ok (.isub, 1) := by decide +kernel
theorem dJ2_getChars_ba4f3_39 : decode cJ2_getChars_ba4f3 39 = .ok (.istore 4, 2) := by decide +kernel
theorem dJ2_getChars_ba4f3_41 : decode cJ2_getChars_ba4f3 41 = .ok (.iload_n 3, 1) := by decide +kernel
theorem dJ2_getChars_ba4f3_42 : decode cJ2_getChars_ba4f3 42 = .ok (.istore_n 0, 1) := by decide +kernel
theorem dJ2_getChars_ba4f3_43 : decode cJ2_getChars_ba4f3 43 = .ok (.aload_n 2, 1) := by decide +kernel
theorem dJ2_getChars_ba4f3_44 : decode cJ2_getChars_ba4f3 44 = .ok (.iinc 5 (-1), 3) := by decide +kernel
theorem dJ2_getChars_ba4f3_47 : decode cJ2_getChars_ba4f3 47 = .ok (.iload 5, 2) := by decide +kernel
theorem dJ2_getChars_ba4f3_49 : decode cJ2_getChars_ba4f3 49 = .ok (.getstatic 403, 3) := by decide +kernel
theorem dJ2_getChars_ba4f3_52 : decode cJ2_getChars_ba4f3 52 = .ok (.iload 4, 2) := by decide +kernel
theorem dJ2_getChars_ba4f3_54 : decode cJ2_getChars_ba4f3 54 = .ok (.baload, 1) := by decide +kernel
theorem dJ2_getChars_ba4f3_55 : decode cJ2_getChars_ba4f3 55 = .ok (.invokestatic 111, 3) := by decide +kernel
theorem dJ2_getChars_ba4f3_58 : decode cJ2_getChars_ba4f3 58 = .ok (.aload_n 2, 1) := by decide +kernel
theorem dJ2_getChars_ba4f3_59 : decode cJ2_getChars_ba4f3 59 = .ok (.iinc 5 (-1), 3) := by decide +kernel
theorem dJ2_getChars_ba4f3_62 : decode cJ2_getChars_ba4f3 62 = .ok (.iload 5, 2) := by decide +kernel
theorem dJ2_getChars_ba4f3_64 : decode cJ2_getChars_ba4f3 64 = .ok (.getstatic 407, 3) := by decide +kernel
theorem dJ2_getChars_ba4f3_67 : decode cJ2_getChars_ba4f3 67 = .ok (.iload 4, 2) := by decide +kernel
theorem dJ2_getChars_ba4f3_69 : decode cJ2_getChars_ba4f3 69 = .ok (.baload, 1) := by decide +kernel
theorem dJ2_getChars_ba4f3_70 : decode cJ2_getChars_ba4f3 70 = .ok (.invokestatic 111, 3) := by decide +kernel
theorem dJ2_getChars_ba4f3_73 : decode cJ2_getChars_ba4f3 73 = .ok (.goto (-51), 3) := by decide +kernel
theorem dJ2_getChars_ba4f3_76 : decode cJ2_getChars_ba4f3 76 = .ok (.aload_n 2, 1) := by decide +kernel
theorem dJ2_getChars_ba4f3_77 : decode cJ2_getChars_ba4f3 77 = .ok (.iinc 5 (-1), 3) := by decide +kernel
theorem dJ2_getChars_ba4f3_80 : decode cJ2_getChars_ba4f3 80 = .ok (.iload 5, 2) := by decide +kernel
theorem dJ2_getChars_ba4f3_82 : decode cJ2_getChars_ba4f3 82 = .ok (.getstatic 403, 3) := by decide +kernel
theorem dJ2_getChars_ba4f3_85 : decode cJ2_getChars_ba4f3 85 = .ok (.iload_n 0, 1) := by decide +kernel
theorem dJ2_getChars_ba4f3_86 : decode cJ2_getChars_ba4f3 86 = .ok (.ineg, 1) := by decide +kernel
theorem dJ2_getChars_ba4f3_87 : decode cJ2_getChars_ba4f3 87 = .ok (.baload, 1) := by decide +kernel
theorem dJ2_getChars_ba4f3_88 : decode cJ2_getChars_ba4f3 88 = .ok (.invokestatic 111, 3) := by decide +kernel
theorem dJ2_getChars_ba4f3_91 : decode cJ2_getChars_ba4f3 91 = .ok (.iload_n 0, 1) := by decide +kernel
theorem dJ2_getChars_ba4f3_92 : decode cJ2_getChars_ba4f3 92 = .ok (.bipush (-9), 2) := by decide +kernel
theorem dJ2_getChars_ba4f3_94 : decode cJ2_getChars_ba4f3 94 = .ok (.if_icmp .ge 18, 3) := by decide +kernel
theorem dJ2_getChars_ba4f3_97 : decode cJ2_getChars_ba4f3 97 = .ok (.aload_n 2, 1) := by decide +kernel
theorem dJ2_getChars_ba4f3_98 : decode cJ2_getChars_ba4f3 98 = .ok (.iinc 5 (-1), 3) := by decide +kernel
theorem dJ2_getChars_ba4f3_101 : decode cJ2_getChars_ba4f3 101 = .ok (.iload 5, 2) := by decide +kernel
theorem dJ2_getChars_ba4f3_103 : decode cJ2_getChars_ba4f3 103 = .ok (.getstatic 407, 3) := by decide +kernel
theorem dJ2_getChars_ba4f3_106 : decode cJ2_getChars_ba4f3 106 = .ok (.iload_n 0, 1) := by decide +kernel
theorem dJ2_getChars_ba4f3_107 : decode cJ2_getChars_ba4f3 107 = .ok (.ineg, 1) := by decide +kernel
theorem dJ2_getChars_ba4f3_108 : decode cJ2_getChars_ba4f3 108 = .ok (.baload, 1) := by decide +kernel
theorem dJ2_getChars_ba4f3_109 : decode cJ2_getChars_ba4f3 109 = .ok (.invokestatic 111, 3) := by decide +kernel
theorem dJ2_getChars_ba4f3_112 : decode cJ2_getChars_ba4f3 112 = .ok (.iload 6, 2) := by decide +kernel
theorem dJ2_getChars_ba4f3_114 : decode cJ2_getChars_ba4f3 114 = .ok (.ifCond .eq 14, 3) := by decide +kernel
theorem dJ2_getChars_ba4f3_117 : decode cJ2_getChars_ba4f3 117 = .ok (.aload_n 2, 1) := by decide +kernel
theorem dJ2_getChars_ba4f3_118 : decode cJ2_getChars_ba4f3 118 = .ok (.iinc 5 (-1), 3) := by decide +kernel
theorem dJ2_getChars_ba4f3_121 : decode cJ2_getChars_ba4f3 121 = .ok (.iload 5, 2) := by decide +kernel
theorem dJ2_getChars_ba4f3_123 : decode cJ2_getChars_ba4f3 123 = .ok (.bipush 45, 2) := by decide +kernel
theorem dJ2_getChars_ba4f3_125 : decode cJ2_getChars_ba4f3 125 = .ok (.invokestatic 111, 3) := by decide +kernel
theorem dJ2_getChars_ba4f3_128 : decode cJ2_getChars_ba4f3 128 = .ok (.iload 5, 2) := by decide +kernel
theorem dJ2_getChars_ba4f3_130 : decode cJ2_getChars_ba4f3 130 = .ok (.ireturn, 1) := by decide +kernel
theorem dJ2_checkIndex_2214a_0 : decode cJ2_checkIndex_2214a 0 = .ok (.iload_n 0, 1) := by decide +kernel
theorem dJ2_checkIndex_2214a_1 : decode cJ2_checkIndex_2214a 1 = .ok (.aload_n 1, 1) := by decide +kernel
theorem dJ2_checkIndex_2214a_2 : decode cJ2_checkIndex_2214a 2 = .ok (.invokestatic 48, 3) := by decide +kernel
theorem dJ2_checkIndex_2214a_5 : decode cJ2_checkIndex_2214a 5 = .ok (.invokestatic 414, 3) := by decide +kernel
theorem dJ2_checkIndex_2214a_8 : decode cJ2_checkIndex_2214a 8 = .ok (.return_, 1) := by decide +kernel
theorem dJ2_checkBoundsBeginEnd_d044e_0 : decode cJ2_checkBoundsBeginEnd_d044e 0 = .ok (.iload_n 0, 1) := by decide +kernel
theorem dJ2_checkBoundsBeginEnd_d044e_1 : decode cJ2_checkBoundsBeginEnd_d044e 1 = .ok (.iload_n 1, 1) := by decide +kernel
theorem dJ2_checkBoundsBeginEnd_d044e_2 : decode cJ2_checkBoundsBeginEnd_d044e 2 = .ok (.aload_n 2, 1) := by decide +kernel
theorem dJ2_checkBoundsBeginEnd_d044e_3 : decode cJ2_checkBoundsBeginEnd_d044e 3 = .ok (.invokestatic 48, 3) := by decide +kernel
theorem dJ2_checkBoundsBeginEnd_d044e_6 : decode cJ2_checkBoundsBeginEnd_d044e 6 = .ok (.invokestatic 241, 3) := by decide +kernel
theorem dJ2_checkBoundsBeginEnd_d044e_9 : decode cJ2_checkBoundsBeginEnd_d044e 9 = .ok (.return_, 1) := by decide +kernel
theorem dJ2_checkBoundsOffCount_d044e_0 : decode cJ2_checkBoundsOffCount_d044e 0 = .ok (.iload_n 0, 1) := by decide +kernel
theorem dJ2_checkBoundsOffCount_d044e_1 : decode cJ2_checkBoundsOffCount_d044e 1 = .ok (.iload_n 1, 1) := by decide +kernel
theorem dJ2_checkBoundsOffCount_d044e_2 : decode cJ2_checkBoundsOffCount_d044e 2 = .ok (.aload_n 2, 1) := by decide +kernel
theorem dJ2_checkBoundsOffCount_d044e_3 : decode cJ2_checkBoundsOffCount_d044e 3 = .ok (.invokestatic 48, 3) := by decide +kernel
theorem dJ2_checkBoundsOffCount_d044e_6 : decode cJ2_checkBoundsOffCount_d044e 6 = .ok (.invokestatic 419, 3) := by decide +kernel
theorem dJ2_checkBoundsOffCount_d044e_9 : decode cJ2_checkBoundsOffCount_d044e 9 = .ok (.pop, 1) := by decide +kernel
theorem dJ2_checkBoundsOffCount_d044e_10 : decode cJ2_checkBoundsOffCount_d044e 10 = .ok (.return_, 1) := by decide +kernel
theorem dJ7_copyOf_9075b_0 : decode cJ7_copyOf_9075b 0 = .ok (.iload_n 1, 1) := by decide +kernel
theorem dJ7_copyOf_9075b_1 : decode cJ7_copyOf_9075b 1 = .ok (.aload_n 0, 1) := by decide +kernel
theorem dJ7_copyOf_9075b_2 : decode cJ7_copyOf_9075b 2 = .ok (.arraylength, 1) := by decide +kernel
theorem dJ7_copyOf_9075b_3 : decode cJ7_copyOf_9075b 3 = .ok (.if_icmp .ne 11, 3) := by decide +kernel
theorem dJ7_copyOf_9075b_6 : decode cJ7_copyOf_9075b 6 = .ok (.aload_n 0, 1) := by decide +kernel
theorem dJ7_copyOf_9075b_7 : decode cJ7_copyOf_9075b 7 = .ok (.invokevirtual 310, 3) := by decide +kernel
theorem dJ7_copyOf_9075b_10 : decode cJ7_copyOf_9075b 10 = .ok (.checkcast 311, 3) := by decide +kernel
theorem dJ7_copyOf_9075b_13 : decode cJ7_copyOf_9075b 13 = .ok (.areturn, 1) := by decide +kernel
theorem dJ7_copyOf_9075b_14 : decode cJ7_copyOf_9075b 14 = .ok (.iload_n 1, 1) := by decide +kernel
theorem dJ7_copyOf_9075b_15 : decode cJ7_copyOf_9075b 15 = .ok (.newarray .byte, 2) := by decide +kernel
theorem dJ7_copyOf_9075b_17 : decode cJ7_copyOf_9075b 17 = .ok (.astore_n 2, 1) := by decide +kernel
theorem dJ7_copyOf_9075b_18 : decode cJ7_copyOf_9075b 18 = .ok (.aload_n 0, 1) := by decide +kernel
theorem dJ7_copyOf_9075b_19 : decode cJ7_copyOf_9075b 19 = .ok (.iconst 0, 1) := by decide +kernel
theorem dJ7_copyOf_9075b_20 : decode cJ7_copyOf_9075b 20 = .ok (.aload_n 2, 1) := by decide +kernel
theorem dJ7_copyOf_9075b_21 : decode cJ7_copyOf_9075b 21 = .ok (.iconst 0, 1) := by decide +kernel
theorem dJ7_copyOf_9075b_22 : decode cJ7_copyOf_9075b 22 = .ok (.aload_n 0, 1) := by decide +kernel
theorem dJ7_copyOf_9075b_23 : decode cJ7_copyOf_9075b 23 = .ok (.arraylength, 1) := by decide +kernel
theorem dJ7_copyOf_9075b_24 : decode cJ7_copyOf_9075b 24 = .ok (.iload_n 1, 1) := by decide +kernel
theorem dJ7_copyOf_9075b_25 : decode cJ7_copyOf_9075b 25 = .ok (.invokestatic 304, 3) := by decide +kernel
theorem dJ7_copyOf_9075b_28 : decode cJ7_copyOf_9075b 28 = .ok (.invokestatic 150, 3) := by decide +kernel
theorem dJ7_copyOf_9075b_31 : decode cJ7_copyOf_9075b 31 = .ok (.aload_n 2, 1) := by decide +kernel
theorem dJ7_copyOf_9075b_32 : decode cJ7_copyOf_9075b 32 = .ok (.areturn, 1) := by decide +kernel
theorem dJ7_checkLength_df160_0 : decode cJ7_checkLength_df160 0 = .ok (.iload_n 1, 1) := by decide +kernel
theorem dJ7_checkLength_df160_1 : decode cJ7_checkLength_df160 1 = .ok (.iload_n 0, 1) := by decide +kernel
theorem dJ7_checkLength_df160_2 : decode cJ7_checkLength_df160 2 = .ok (.if_icmp .ge 35, 3) := by decide +kernel
theorem dJ7_checkLength_df160_5 : decode cJ7_checkLength_df160 5 = .ok (.new 43, 3) := by decide +kernel
theorem dJ7_checkLength_df160_8 : decode cJ7_checkLength_df160 8 = .ok (.dup, 1) := by decide +kernel
theorem dJ7_checkLength_df160_9 : decode cJ7_checkLength_df160 9 = .ok (.new 45, 3) := by decide +kernel
theorem dJ7_checkLength_df160_12 : decode cJ7_checkLength_df160 12 = .ok (.dup, 1) := by decide +kernel
theorem dJ7_checkLength_df160_13 : decode cJ7_checkLength_df160 13 = .ok (.invokespecial 47, 3) := by decide +kernel
theorem dJ7_checkLength_df160_16 : decode cJ7_checkLength_df160 16 = .ok (.iload_n 0, 1) := by decide +kernel
theorem dJ7_checkLength_df160_17 : decode cJ7_checkLength_df160 17 = .ok (.invokevirtual 54, 3) := by decide +kernel
theorem dJ7_checkLength_df160_20 : decode cJ7_checkLength_df160 20 = .ok (.ldc_w 337, 3) := by decide +kernel
theorem dJ7_checkLength_df160_23 : decode cJ7_checkLength_df160 23 = .ok (.invokevirtual 50, 3) := by decide +kernel
theorem dJ7_checkLength_df160_26 : decode cJ7_checkLength_df160 26 = .ok (.iload_n 1, 1) := by decide +kernel
theorem dJ7_checkLength_df160_27 : decode cJ7_checkLength_df160 27 = .ok (.invokevirtual 54, 3) := by decide +kernel
theorem dJ7_checkLength_df160_30 : decode cJ7_checkLength_df160 30 = .ok (.invokevirtual 61, 3) := by decide +kernel
theorem dJ7_checkLength_df160_33 : decode cJ7_checkLength_df160 33 = .ok (.invokespecial 65, 3) := by decide +kernel
theorem dJ7_checkLength_df160_36 : decode cJ7_checkLength_df160 36 = .ok (.athrow, 1) := by decide +kernel
theorem dJ7_checkLength_df160_37 : decode cJ7_checkLength_df160 37 = .ok (.return_, 1) := by decide +kernel
theorem dJ7_copyOfRange_39247_0 : decode cJ7_copyOfRange_39247 0 = .ok (.iload_n 1, 1) := by decide +kernel
theorem dJ7_copyOfRange_39247_1 : decode cJ7_copyOfRange_39247 1 = .ok (.ifCond .ne 9, 3) := by decide +kernel
theorem dJ7_copyOfRange_39247_4 : decode cJ7_copyOfRange_39247 4 = .ok (.iload_n 2, 1) := by decide +kernel
theorem dJ7_copyOfRange_39247_5 : decode cJ7_copyOfRange_39247 5 = .ok (.aload_n 0, 1) := by decide +kernel
theorem dJ7_copyOfRange_39247_6 : decode cJ7_copyOfRange_39247 6 = .ok (.arraylength, 1) := by decide +kernel
theorem dJ7_copyOfRange_39247_7 : decode cJ7_copyOfRange_39247 7 = .ok (.if_icmp .eq 10, 3) := by decide +kernel
theorem dJ7_copyOfRange_39247_10 : decode cJ7_copyOfRange_39247 10 = .ok (.aload_n 0, 1) := by decide +kernel
theorem dJ7_copyOfRange_39247_11 : decode cJ7_copyOfRange_39247 11 = .ok (.iload_n 1, 1) := by decide +kernel
theorem dJ7_copyOfRange_39247_12 : decode cJ7_copyOfRange_39247 12 = .ok (.iload_n 2, 1) := by decide +kernel
theorem dJ7_copyOfRange_39247_13 : decode cJ7_copyOfRange_39247 13 = .ok (.invokestatic 339, 3) := by decide +kernel
theorem dJ7_copyOfRange_39247_16 : decode cJ7_copyOfRange_39247 16 = .ok (.areturn, 1) := by decide +kernel
theorem dJ7_copyOfRange_39247_17 : decode cJ7_copyOfRange_39247 17 = .ok (.aload_n 0, 1) := by decide +kernel
theorem dJ7_copyOfRange_39247_18 : decode cJ7_copyOfRange_39247 18 = .ok (.invokevirtual 310, 3) := by decide +kernel
theorem dJ7_copyOfRange_39247_21 : decode cJ7_copyOfRange_39247 21 = .ok (.checkcast 311, 3) := by decide +kernel
theorem dJ7_copyOfRange_39247_24 : decode cJ7_copyOfRange_39247 24 = .ok (.areturn, 1) := by decide +kernel
theorem dJ7_copyOfRangeByte_39247_0 : decode cJ7_copyOfRangeByte_39247 0 = .ok (.iload_n 1, 1) := by decide +kernel
theorem dJ7_copyOfRangeByte_39247_1 : decode cJ7_copyOfRangeByte_39247 1 = .ok (.iload_n 2, 1) := by decide +kernel
theorem dJ7_copyOfRangeByte_39247_2 : decode cJ7_copyOfRangeByte_39247 2 = .ok (.invokestatic 343, 3) := by decide +kernel
theorem dJ7_copyOfRangeByte_39247_5 : decode cJ7_copyOfRangeByte_39247 5 = .ok (.iload_n 2, 1) := by decide +kernel
theorem dJ7_copyOfRangeByte_39247_6 : decode cJ7_copyOfRangeByte_39247 6 = .ok (.iload_n 1, 1) := by decide +kernel
theorem dJ7_copyOfRangeByte_39247_7 : decode cJ7_copyOfRangeByte_39247 7 = .ok (.isub, 1) := by decide +kernel
theorem dJ7_copyOfRangeByte_39247_8 : decode cJ7_copyOfRangeByte_39247 8 = .ok (.istore_n 3, 1) := by decide +kernel
theorem dJ7_copyOfRangeByte_39247_9 : decode cJ7_copyOfRangeByte_39247 9 = .ok (.iload_n 3, 1) := by decide +kernel
theorem dJ7_copyOfRangeByte_39247_10 : decode cJ7_copyOfRangeByte_39247 10 = .ok (.newarray .byte, 2) := by decide +kernel
theorem dJ7_copyOfRangeByte_39247_12 : decode cJ7_copyOfRangeByte_39247 12 = .ok (.astore 4, 2) := by decide +kernel
theorem dJ7_copyOfRangeByte_39247_14 : decode cJ7_copyOfRangeByte_39247 14 = .ok (.aload_n 0, 1) := by decide +kernel
theorem dJ7_copyOfRangeByte_39247_15 : decode cJ7_copyOfRangeByte_39247 15 = .ok (.iload_n 1, 1) := by decide +kernel
theorem dJ7_copyOfRangeByte_39247_16 : decode cJ7_copyOfRangeByte_39247 16 = .ok (.aload 4, 2) := by decide +kernel
theorem dJ7_copyOfRangeByte_39247_18 : decode cJ7_copyOfRangeByte_39247 18 = .ok (.iconst 0, 1) := by decide +kernel
theorem dJ7_copyOfRangeByte_39247_19 : decode cJ7_copyOfRangeByte_39247 19 = .ok (.aload_n 0, 1) := by decide +kernel
theorem dJ7_copyOfRangeByte_39247_20 : decode cJ7_copyOfRangeByte_39247 20 = .ok (.arraylength, 1) := by decide +kernel
theorem dJ7_copyOfRangeByte_39247_21 : decode cJ7_copyOfRangeByte_39247 21 = .ok (.iload_n 1, 1) := by decide +kernel
theorem dJ7_copyOfRangeByte_39247_22 : decode cJ7_copyOfRangeByte_39247 22 = .ok (.isub, 1) := by decide +kernel
theorem dJ7_copyOfRangeByte_39247_23 : decode cJ7_copyOfRangeByte_39247 23 = .ok (.iload_n 3, 1) := by decide +kernel
theorem dJ7_copyOfRangeByte_39247_24 : decode cJ7_copyOfRangeByte_39247 24 = .ok (.invokestatic 304, 3) := by decide +kernel
theorem dJ7_copyOfRangeByte_39247_27 : decode cJ7_copyOfRangeByte_39247 27 = .ok (.invokestatic 150, 3) := by decide +kernel
theorem dJ7_copyOfRangeByte_39247_30 : decode cJ7_copyOfRangeByte_39247 30 = .ok (.aload 4, 2) := by decide +kernel
theorem dJ7_copyOfRangeByte_39247_32 : decode cJ7_copyOfRangeByte_39247 32 = .ok (.areturn, 1) := by decide +kernel
theorem dJ8_newLength_cabcc_0 : decode cJ8_newLength_cabcc 0 = .ok (.iload_n 0, 1) := by decide +kernel
theorem dJ8_newLength_cabcc_1 : decode cJ8_newLength_cabcc 1 = .ok (.iload_n 1, 1) := by decide +kernel
theorem dJ8_newLength_cabcc_2 : decode cJ8_newLength_cabcc 2 = .ok (.iload_n 2, 1) := by decide +kernel
theorem dJ8_newLength_cabcc_3 : decode cJ8_newLength_cabcc 3 = .ok (.invokestatic 194, 3) := by decide +kernel
theorem dJ8_newLength_cabcc_6 : decode cJ8_newLength_cabcc 6 = .ok (.iadd, 1) := by decide +kernel
theorem dJ8_newLength_cabcc_7 : decode cJ8_newLength_cabcc 7 = .ok (.istore_n 3, 1) := by decide +kernel
theorem dJ8_newLength_cabcc_8 : decode cJ8_newLength_cabcc 8 = .ok (.iconst 0, 1) := by decide +kernel
theorem dJ8_newLength_cabcc_9 : decode cJ8_newLength_cabcc 9 = .ok (.iload_n 3, 1) := by decide +kernel
theorem dJ8_newLength_cabcc_10 : decode cJ8_newLength_cabcc 10 = .ok (.if_icmp .ge 11, 3) := by decide +kernel
theorem dJ8_newLength_cabcc_13 : decode cJ8_newLength_cabcc 13 = .ok (.iload_n 3, 1) := by decide +kernel
theorem dJ8_newLength_cabcc_14 : decode cJ8_newLength_cabcc 14 = .ok (.ldc 200, 2) := by decide +kernel
theorem dJ8_newLength_cabcc_16 : decode cJ8_newLength_cabcc 16 = .ok (.if_icmp .gt 5, 3) := by decide +kernel
theorem dJ8_newLength_cabcc_19 : decode cJ8_newLength_cabcc 19 = .ok (.iload_n 3, 1) := by decide +kernel
theorem dJ8_newLength_cabcc_20 : decode cJ8_newLength_cabcc 20 = .ok (.ireturn, 1) := by decide +kernel
theorem dJ8_newLength_cabcc_21 : decode cJ8_newLength_cabcc 21 = .ok (.iload_n 0, 1) := by decide +kernel
theorem dJ8_newLength_cabcc_22 : decode cJ8_newLength_cabcc 22 = .ok (.iload_n 1, 1) := by decide +kernel
theorem dJ8_newLength_cabcc_23 : decode cJ8_newLength_cabcc 23 = .ok (.invokestatic 201, 3) := by decide +kernel
theorem dJ8_newLength_cabcc_26 : decode cJ8_newLength_cabcc 26 = .ok (.ireturn, 1) := by decide +kernel
theorem dJ8_hugeLength_7cf53_0 : decode cJ8_hugeLength_7cf53 0 = .ok (.iload_n 0, 1) := by decide +kernel
theorem dJ8_hugeLength_7cf53_1 : decode cJ8_hugeLength_7cf53 1 = .ok (.iload_n 1, 1) := by decide +kernel
theorem dJ8_hugeLength_7cf53_2 : decode cJ8_hugeLength_7cf53 2 = .ok (.iadd, 1) := by decide +kernel
theorem dJ8_hugeLength_7cf53_3 : decode cJ8_hugeLength_7cf53 3 = .ok (.istore_n 2, 1) := by decide +kernel
theorem dJ8_hugeLength_7cf53_4 : decode cJ8_hugeLength_7cf53 4 = .ok (.iload_n 2, 1) := by decide +kernel
theorem dJ8_hugeLength_7cf53_5 : decode cJ8_hugeLength_7cf53 5 = .ok (.ifCond .ge 44, 3) := by decide +kernel
theorem dJ8_hugeLength_7cf53_8 : decode cJ8_hugeLength_7cf53 8 = .ok (.new 204, 3) := by decide +kernel
theorem dJ8_hugeLength_7cf53_11 : decode cJ8_hugeLength_7cf53 11 = .ok (.dup, 1) := by decide +kernel
theorem dJ8_hugeLength_7cf53_12 : decode cJ8_hugeLength_7cf53 12 = .ok (.new 89, 3) := by decide +kernel
theorem dJ8_hugeLength_7cf53_15 : decode cJ8_hugeLength_7cf53 15 = .ok (.dup, 1) := by decide +kernel
theorem dJ8_hugeLength_7cf53_16 : decode cJ8_hugeLength_7cf53 16 = .ok (.invokespecial 91, 3) := by decide +kernel
theorem dJ8_hugeLength_7cf53_19 : decode cJ8_hugeLength_7cf53 19 = .ok (.ldc 206, 2) := by decide +kernel
theorem dJ8_hugeLength_7cf53_21 : decode cJ8_hugeLength_7cf53 21 = .ok (.invokevirtual 94, 3) := by decide +kernel
theorem dJ8_hugeLength_7cf53_24 : decode cJ8_hugeLength_7cf53 24 = .ok (.iload_n 0, 1) := by decide +kernel
theorem dJ8_hugeLength_7cf53_25 : decode cJ8_hugeLength_7cf53 25 = .ok (.invokevirtual 98, 3) := by decide +kernel
theorem dJ8_hugeLength_7cf53_28 : decode cJ8_hugeLength_7cf53 28 = .ok (.ldc 208, 2) := by decide +kernel
theorem dJ8_hugeLength_7cf53_30 : decode cJ8_hugeLength_7cf53 30 = .ok (.invokevirtual 94, 3) := by decide +kernel
theorem dJ8_hugeLength_7cf53_33 : decode cJ8_hugeLength_7cf53 33 = .ok (.iload_n 1, 1) := by decide +kernel
theorem dJ8_hugeLength_7cf53_34 : decode cJ8_hugeLength_7cf53 34 = .ok (.invokevirtual 98, 3) := by decide +kernel
theorem dJ8_hugeLength_7cf53_37 : decode cJ8_hugeLength_7cf53 37 = .ok (.ldc 210, 2) := by decide +kernel
theorem dJ8_hugeLength_7cf53_39 : decode cJ8_hugeLength_7cf53 39 = .ok (.invokevirtual 94, 3) := by decide +kernel
theorem dJ8_hugeLength_7cf53_42 : decode cJ8_hugeLength_7cf53 42 = .ok (.invokevirtual 101, 3) := by decide +kernel
theorem dJ8_hugeLength_7cf53_45 : decode cJ8_hugeLength_7cf53 45 = .ok (.invokespecial 212, 3) := by decide +kernel
theorem dJ8_hugeLength_7cf53_48 : decode cJ8_hugeLength_7cf53 48 = .ok (.athrow, 1) := by decide +kernel
theorem dJ8_hugeLength_7cf53_49 : decode cJ8_hugeLength_7cf53 49 = .ok (.iload_n 2, 1) := by decide +kernel
theorem dJ8_hugeLength_7cf53_50 : decode cJ8_hugeLength_7cf53 50 = .ok (.ldc 200, 2) := by decide +kernel
theorem dJ8_hugeLength_7cf53_52 : decode cJ8_hugeLength_7cf53 52 = .ok (.if_icmp .gt 6, 3) := by decide +kernel
theorem dJ8_hugeLength_7cf53_55 : decode cJ8_hugeLength_7cf53 55 = .ok (.ldc 200, 2) := by decide +kernel
theorem dJ8_hugeLength_7cf53_57 : decode cJ8_hugeLength_7cf53 57 = .ok (.ireturn, 1) := by decide +kernel
theorem dJ8_hugeLength_7cf53_58 : decode cJ8_hugeLength_7cf53 58 = .ok (.iload_n 2, 1) := by decide +kernel
theorem dJ8_hugeLength_7cf53_59 : decode cJ8_hugeLength_7cf53 59 = .ok (.ireturn, 1) := by decide +kernel
theorem dJ3_checkIndex_8e157_0 : decode cJ3_checkIndex_8e157 0 = .ok (.iload_n 0, 1) := by decide +kernel
theorem dJ3_checkIndex_8e157_1 : decode cJ3_checkIndex_8e157 1 = .ok (.ifCond .lt 8, 3) := by decide +kernel
theorem dJ3_checkIndex_8e157_4 : decode cJ3_checkIndex_8e157 4 = .ok (.iload_n 0, 1) := by decide +kernel
theorem dJ3_checkIndex_8e157_5 : decode cJ3_checkIndex_8e157 5 = .ok (.iload_n 1, 1) := by decide +kernel
theorem dJ3_checkIndex_8e157_6 : decode cJ3_checkIndex_8e157 6 = .ok (.if_icmp .lt 10, 3) := by decide +kernel
theorem dJ3_checkIndex_8e157_9 : decode cJ3_checkIndex_8e157 9 = .ok (.aload_n 2, 1) := by decide +kernel
theorem dJ3_checkIndex_8e157_10 : decode cJ3_checkIndex_8e157 10 = .ok (.iload_n 0, 1) := by decide +kernel
theorem dJ3_checkIndex_8e157_11 : decode cJ3_checkIndex_8e157 11 = .ok (.iload_n 1, 1) := by decide +kernel
theorem dJ3_checkIndex_8e157_12 : decode cJ3_checkIndex_8e157 12 = .ok (.invokestatic 95, 3) := by decide +kernel
theorem dJ3_checkIndex_8e157_15 : decode cJ3_checkIndex_8e157 15 = .ok (.athrow, 1) := by decide +kernel
theorem dJ3_checkIndex_8e157_16 : decode cJ3_checkIndex_8e157 16 = .ok (.iload_n 0, 1) := by decide +kernel
theorem dJ3_checkIndex_8e157_17 : decode cJ3_checkIndex_8e157 17 = .ok (.ireturn, 1) := by decide +kernel
theorem dJ3_checkFromToIndex_8c36e_0 : decode cJ3_checkFromToIndex_8c36e 0 = .ok (.iload_n 0, 1) := by decide +kernel
theorem dJ3_checkFromToIndex_8c36e_1 : decode cJ3_checkFromToIndex_8c36e 1 = .ok (.ifCond .lt 13, 3) := by decide +kernel
theorem dJ3_checkFromToIndex_8c36e_4 : decode cJ3_checkFromToIndex_8c36e 4 = .ok (.iload_n 0, 1) := by decide +kernel
theorem dJ3_checkFromToIndex_8c36e_5 : decode cJ3_checkFromToIndex_8c36e 5 = .ok (.iload_n 1, 1) := by decide +kernel
theorem dJ3_checkFromToIndex_8c36e_6 : decode cJ3_checkFromToIndex_8c36e 6 = .ok (.if_icmp .gt 8, 3) := by decide +kernel
theorem dJ3_checkFromToIndex_8c36e_9 : decode cJ3_checkFromToIndex_8c36e 9 = .ok (.iload_n 1, 1) := by decide +kernel
theorem dJ3_checkFromToIndex_8c36e_10 : decode cJ3_checkFromToIndex_8c36e 10 = .ok (.iload_n 2, 1) := by decide +kernel
theorem dJ3_checkFromToIndex_8c36e_11 : decode cJ3_checkFromToIndex_8c36e 11 = .ok (.if_icmp .le 11, 3) := by decide +kernel
theorem dJ3_checkFromToIndex_8c36e_14 : decode cJ3_checkFromToIndex_8c36e 14 = .ok (.aload_n 3, 1) := by decide +kernel
theorem dJ3_checkFromToIndex_8c36e_15 : decode cJ3_checkFromToIndex_8c36e 15 = .ok (.iload_n 0, 1) := by decide +kernel
theorem dJ3_checkFromToIndex_8c36e_16 : decode cJ3_checkFromToIndex_8c36e 16 = .ok (.iload_n 1, 1) := by decide +kernel
theorem dJ3_checkFromToIndex_8c36e_17 : decode cJ3_checkFromToIndex_8c36e 17 = .ok (.iload_n 2, 1) := by decide +kernel
theorem dJ3_checkFromToIndex_8c36e_18 : decode cJ3_checkFromToIndex_8c36e 18 = .ok (.invokestatic 99, 3) := by decide +kernel
theorem dJ3_checkFromToIndex_8c36e_21 : decode cJ3_checkFromToIndex_8c36e 21 = .ok (.athrow, 1) := by decide +kernel
theorem dJ3_checkFromToIndex_8c36e_22 : decode cJ3_checkFromToIndex_8c36e 22 = .ok (.iload_n 0, 1) := by decide +kernel
theorem dJ3_checkFromToIndex_8c36e_23 : decode cJ3_checkFromToIndex_8c36e 23 = .ok (.ireturn, 1) := by decide +kernel
theorem dJ3_checkFromIndexSize_8c36e_0 : decode cJ3_checkFromIndexSize_8c36e 0 = .ok (.iload_n 2, 1) := by decide +kernel
theorem dJ3_checkFromIndexSize_8c36e_1 : decode cJ3_checkFromIndexSize_8c36e 1 = .ok (.iload_n 0, 1) := by decide +kernel
theorem dJ3_checkFromIndexSize_8c36e_2 : decode cJ3_checkFromIndexSize_8c36e 2 = .ok (.ior, 1) := by decide +kernel
theorem dJ3_checkFromIndexSize_8c36e_3 : decode cJ3_checkFromIndexSize_8c36e 3 = .ok (.iload_n 1, 1) := by decide +kernel
theorem dJ3_checkFromIndexSize_8c36e_4 : decode cJ3_checkFromIndexSize_8c36e 4 = .ok (.ior, 1) := by decide +kernel
theorem dJ3_checkFromIndexSize_8c36e_5 : decode cJ3_checkFromIndexSize_8c36e 5 = .ok (.ifCond .lt 10, 3) := by decide +kernel
theorem dJ3_checkFromIndexSize_8c36e_8 : decode cJ3_checkFromIndexSize_8c36e 8 = .ok (.iload_n 1, 1) := by decide +kernel
theorem dJ3_checkFromIndexSize_8c36e_9 : decode cJ3_checkFromIndexSize_8c36e 9 = .ok (.iload_n 2, 1) := by decide +kernel
theorem dJ3_checkFromIndexSize_8c36e_10 : decode cJ3_checkFromIndexSize_8c36e 10 = .ok (.iload_n 0, 1) := by decide +kernel
theorem dJ3_checkFromIndexSize_8c36e_11 : decode cJ3_checkFromIndexSize_8c36e 11 = .ok (.isub, 1) := by decide +kernel
theorem dJ3_checkFromIndexSize_8c36e_12 : decode cJ3_checkFromIndexSize_8c36e 12 = .ok (.if_icmp .le 11, 3) := by decide +kernel
theorem dJ3_checkFromIndexSize_8c36e_15 : decode cJ3_checkFromIndexSize_8c36e 15 = .ok (.aload_n 3, 1) := by decide +kernel
theorem dJ3_checkFromIndexSize_8c36e_16 : decode cJ3_checkFromIndexSize_8c36e 16 = .ok (.iload_n 0, 1) := by decide +kernel
theorem dJ3_checkFromIndexSize_8c36e_17 : decode cJ3_checkFromIndexSize_8c36e 17 = .ok (.iload_n 1, 1) := by decide +kernel
theorem dJ3_checkFromIndexSize_8c36e_18 : decode cJ3_checkFromIndexSize_8c36e 18 = .ok (.iload_n 2, 1) := by decide +kernel
theorem dJ3_checkFromIndexSize_8c36e_19 : decode cJ3_checkFromIndexSize_8c36e 19 = .ok (.invokestatic 103, 3) := by decide +kernel
theorem dJ3_checkFromIndexSize_8c36e_22 : decode cJ3_checkFromIndexSize_8c36e 22 = .ok (.athrow, 1) := by decide +kernel
theorem dJ3_checkFromIndexSize_8c36e_23 : decode cJ3_checkFromIndexSize_8c36e 23 = .ok (.iload_n 0, 1) := by decide +kernel
theorem dJ3_checkFromIndexSize_8c36e_24 : decode cJ3_checkFromIndexSize_8c36e 24 = .ok (.ireturn, 1) := by decide +kernel
theorem dL_draw_0 : decode cL_draw 0 = .ok (.iload_n 1, 1) := by decide +kernel
theorem dL_draw_1 : decode cL_draw 1 = .ok (.aload_n 0, 1) := by decide +kernel
theorem dL_draw_2 : decode cL_draw 2 = .ok (.arraylength, 1) := by decide +kernel
theorem dL_draw_3 : decode cL_draw 3 = .ok (.if_icmp .ge 9, 3) := by decide +kernel
theorem dL_draw_6 : decode cL_draw 6 = .ok (.aload_n 0, 1) := by decide +kernel
theorem dL_draw_7 : decode cL_draw 7 = .ok (.iload_n 1, 1) := by decide +kernel
theorem dL_draw_8 : decode cL_draw 8 = .ok (.iaload, 1) := by decide +kernel
theorem dL_draw_9 : decode cL_draw 9 = .ok (.goto 4, 3) := by decide +kernel
theorem dL_draw_12 : decode cL_draw 12 = .ok (.iconst 0, 1) := by decide +kernel
theorem dL_draw_13 : decode cL_draw 13 = .ok (.ldc 7, 2) := by decide +kernel
theorem dL_draw_15 : decode cL_draw 15 = .ok (.iand, 1) := by decide +kernel
theorem dL_draw_16 : decode cL_draw 16 = .ok (.iload_n 2, 1) := by decide +kernel
theorem dL_draw_17 : decode cL_draw 17 = .ok (.irem, 1) := by decide +kernel
theorem dL_draw_18 : decode cL_draw 18 = .ok (.ireturn, 1) := by decide +kernel
theorem dL_four_0 : decode cL_four 0 = .ok (.iconst 0, 1) := by decide +kernel
theorem dL_four_1 : decode cL_four 1 = .ok (.istore_n 2, 1) := by decide +kernel
theorem dL_four_2 : decode cL_four 2 = .ok (.iconst 0, 1) := by decide +kernel
theorem dL_four_3 : decode cL_four 3 = .ok (.istore_n 3, 1) := by decide +kernel
theorem dL_four_4 : decode cL_four 4 = .ok (.iload_n 3, 1) := by decide +kernel
theorem dL_four_5 : decode cL_four 5 = .ok (.iconst 4, 1) := by decide +kernel
theorem dL_four_6 : decode cL_four 6 = .ok (.if_icmp .ge 36, 3) := by decide +kernel
theorem dL_four_9 : decode cL_four 9 = .ok (.iload_n 2, 1) := by decide +kernel
theorem dL_four_10 : decode cL_four 10 = .ok (.bipush 8, 2) := by decide +kernel
theorem dL_four_12 : decode cL_four 12 = .ok (.ishl, 1) := by decide +kernel
theorem dL_four_13 : decode cL_four 13 = .ok (.iload_n 1, 1) := by decide +kernel
theorem dL_four_14 : decode cL_four 14 = .ok (.iload_n 3, 1) := by decide +kernel
theorem dL_four_15 : decode cL_four 15 = .ok (.iadd, 1) := by decide +kernel
theorem dL_four_16 : decode cL_four 16 = .ok (.aload_n 0, 1) := by decide +kernel
theorem dL_four_17 : decode cL_four 17 = .ok (.invokevirtual 8, 3) := by decide +kernel
theorem dL_four_20 : decode cL_four 20 = .ok (.if_icmp .ge 13, 3) := by decide +kernel
theorem dL_four_23 : decode cL_four 23 = .ok (.aload_n 0, 1) := by decide +kernel
theorem dL_four_24 : decode cL_four 24 = .ok (.iload_n 1, 1) := by decide +kernel
theorem dL_four_25 : decode cL_four 25 = .ok (.iload_n 3, 1) := by decide +kernel
theorem dL_four_26 : decode cL_four 26 = .ok (.iadd, 1) := by decide +kernel
theorem dL_four_27 : decode cL_four 27 = .ok (.invokevirtual 14, 3) := by decide +kernel
theorem dL_four_30 : decode cL_four 30 = .ok (.goto 4, 3) := by decide +kernel
theorem dL_four_33 : decode cL_four 33 = .ok (.iconst 0, 1) := by decide +kernel
theorem dL_four_34 : decode cL_four 34 = .ok (.ior, 1) := by decide +kernel
theorem dL_four_35 : decode cL_four 35 = .ok (.istore_n 2, 1) := by decide +kernel
theorem dL_four_36 : decode cL_four 36 = .ok (.iinc 3 1, 3) := by decide +kernel
theorem dL_four_39 : decode cL_four 39 = .ok (.goto (-35), 3) := by decide +kernel
theorem dL_four_42 : decode cL_four 42 = .ok (.iload_n 2, 1) := by decide +kernel
theorem dL_four_43 : decode cL_four 43 = .ok (.ireturn, 1) := by decide +kernel
theorem dL_feed_0 : decode cL_feed 0 = .ok (.iconst 0, 1) := by decide +kernel
theorem dL_feed_1 : decode cL_feed 1 = .ok (.istore_n 2, 1) := by decide +kernel
theorem dL_feed_2 : decode cL_feed 2 = .ok (.iconst 0, 1) := by decide +kernel
theorem dL_feed_3 : decode cL_feed 3 = .ok (.istore_n 3, 1) := by decide +kernel
theorem dL_feed_4 : decode cL_feed 4 = .ok (.iload_n 3, 1) := by decide +kernel
theorem dL_feed_5 : decode cL_feed 5 = .ok (.aload_n 1, 1) := by decide +kernel
theorem dL_feed_6 : decode cL_feed 6 = .ok (.invokevirtual 8, 3) := by decide +kernel
theorem dL_feed_9 : decode cL_feed 9 = .ok (.if_icmp .lt 7, 3) := by decide +kernel
theorem dL_feed_12 : decode cL_feed 12 = .ok (.iload_n 3, 1) := by decide +kernel
theorem dL_feed_13 : decode cL_feed 13 = .ok (.ifCond .ne 50, 3) := by decide +kernel
theorem dL_feed_16 : decode cL_feed 16 = .ok (.aload_n 0, 1) := by decide +kernel
theorem dL_feed_17 : decode cL_feed 17 = .ok (.aload_n 1, 1) := by decide +kernel
theorem dL_feed_18 : decode cL_feed 18 = .ok (.iload_n 3, 1) := by decide +kernel
theorem dL_feed_19 : decode cL_feed 19 = .ok (.invokestatic 18, 3) := by decide +kernel
theorem dL_feed_22 : decode cL_feed 22 = .ok (.aload_n 1, 1) := by decide +kernel
theorem dL_feed_23 : decode cL_feed 23 = .ok (.iload_n 3, 1) := by decide +kernel
theorem dL_feed_24 : decode cL_feed 24 = .ok (.iconst 4, 1) := by decide +kernel
theorem dL_feed_25 : decode cL_feed 25 = .ok (.iadd, 1) := by decide +kernel
theorem dL_feed_26 : decode cL_feed 26 = .ok (.invokestatic 18, 3) := by decide +kernel
theorem dL_feed_29 : decode cL_feed 29 = .ok (.aload_n 1, 1) := by decide +kernel
theorem dL_feed_30 : decode cL_feed 30 = .ok (.iload_n 3, 1) := by decide +kernel
theorem dL_feed_31 : decode cL_feed 31 = .ok (.bipush 8, 2) := by decide +kernel
theorem dL_feed_33 : decode cL_feed 33 = .ok (.iadd, 1) := by decide +kernel
theorem dL_feed_34 : decode cL_feed 34 = .ok (.invokestatic 18, 3) := by decide +kernel
theorem dL_feed_37 : decode cL_feed 37 = .ok (.aload_n 1, 1) := by decide +kernel
theorem dL_feed_38 : decode cL_feed 38 = .ok (.iload_n 3, 1) := by decide +kernel
theorem dL_feed_39 : decode cL_feed 39 = .ok (.bipush 12, 2) := by decide +kernel
theorem dL_feed_41 : decode cL_feed 41 = .ok (.iadd, 1) := by decide +kernel
theorem dL_feed_42 : decode cL_feed 42 = .ok (.invokestatic 18, 3) := by decide +kernel
theorem dL_feed_45 : decode cL_feed 45 = .ok (.aload_n 1, 1) := by decide +kernel
theorem dL_feed_46 : decode cL_feed 46 = .ok (.iload_n 3, 1) := by decide +kernel
theorem dL_feed_47 : decode cL_feed 47 = .ok (.bipush 16, 2) := by decide +kernel
theorem dL_feed_49 : decode cL_feed 49 = .ok (.iadd, 1) := by decide +kernel
theorem dL_feed_50 : decode cL_feed 50 = .ok (.invokestatic 18, 3) := by decide +kernel
theorem dL_feed_53 : decode cL_feed 53 = .ok (.invokevirtual 24, 3) := by decide +kernel
theorem dL_feed_56 : decode cL_feed 56 = .ok (.istore_n 2, 1) := by decide +kernel
theorem dL_feed_57 : decode cL_feed 57 = .ok (.iinc 3 20, 3) := by decide +kernel
theorem dL_feed_60 : decode cL_feed 60 = .ok (.goto (-56), 3) := by decide +kernel
theorem dL_feed_63 : decode cL_feed 63 = .ok (.aload_n 0, 1) := by decide +kernel
theorem dL_feed_64 : decode cL_feed 64 = .ok (.iload_n 2, 1) := by decide +kernel
theorem dL_feed_65 : decode cL_feed 65 = .ok (.aload_n 1, 1) := by decide +kernel
theorem dL_feed_66 : decode cL_feed 66 = .ok (.invokevirtual 8, 3) := by decide +kernel
theorem dL_feed_69 : decode cL_feed 69 = .ok (.invokestatic 30, 3) := by decide +kernel
theorem dL_feed_72 : decode cL_feed 72 = .ok (.invokevirtual 36, 3) := by decide +kernel
theorem dL_feed_75 : decode cL_feed 75 = .ok (.return_, 1) := by decide +kernel
theorem dL_word_0 : decode cL_word 0 = .ok (.iconst 1, 1) := by decide +kernel
theorem dL_word_1 : decode cL_word 1 = .ok (.iload_n 1, 1) := by decide +kernel
theorem dL_word_2 : decode cL_word 2 = .ok (.bipush 7, 2) := by decide +kernel
theorem dL_word_4 : decode cL_word 4 = .ok (.iload_n 2, 1) := by decide +kernel
theorem dL_word_5 : decode cL_word 5 = .ok (.invokestatic 30, 3) := by decide +kernel
theorem dL_word_8 : decode cL_word 8 = .ok (.irem, 1) := by decide +kernel
theorem dL_word_9 : decode cL_word 9 = .ok (.iadd, 1) := by decide +kernel
theorem dL_word_10 : decode cL_word 10 = .ok (.istore_n 3, 1) := by decide +kernel
theorem dL_word_11 : decode cL_word 11 = .ok (.aload_n 0, 1) := by decide +kernel
theorem dL_word_12 : decode cL_word 12 = .ok (.ldc 40, 2) := by decide +kernel
theorem dL_word_14 : decode cL_word 14 = .ok (.invokevirtual 42, 3) := by decide +kernel
theorem dL_word_17 : decode cL_word 17 = .ok (.pop, 1) := by decide +kernel
theorem dL_word_18 : decode cL_word 18 = .ok (.iconst 0, 1) := by decide +kernel
theorem dL_word_19 : decode cL_word 19 = .ok (.istore 4, 2) := by decide +kernel
theorem dL_word_21 : decode cL_word 21 = .ok (.iload 4, 2) := by decide +kernel
theorem dL_word_23 : decode cL_word 23 = .ok (.iload_n 3, 1) := by decide +kernel
theorem dL_word_24 : decode cL_word 24 = .ok (.if_icmp .ge 54, 3) := by decide +kernel
theorem dL_word_27 : decode cL_word 27 = .ok (.aload_n 0, 1) := by decide +kernel
theorem dL_word_28 : decode cL_word 28 = .ok (.iload_n 1, 1) := by decide +kernel
theorem dL_word_29 : decode cL_word 29 = .ok (.iconst 5, 1) := by decide +kernel
theorem dL_word_30 : decode cL_word 30 = .ok (.irem, 1) := by decide +kernel
theorem dL_word_31 : decode cL_word 31 = .ok (.ifCond .ne 21, 3) := by decide +kernel
theorem dL_word_34 : decode cL_word 34 = .ok (.bipush 48, 2) := by decide +kernel
theorem dL_word_36 : decode cL_word 36 = .ok (.iload_n 1, 1) := by decide +kernel
theorem dL_word_37 : decode cL_word 37 = .ok (.bipush 7, 2) := by decide +kernel
theorem dL_word_39 : decode cL_word 39 = .ok (.idiv, 1) := by decide +kernel
theorem dL_word_40 : decode cL_word 40 = .ok (.iconst 3, 1) := by decide +kernel
theorem dL_word_41 : decode cL_word 41 = .ok (.iload 4, 2) := by decide +kernel
theorem dL_word_43 : decode cL_word 43 = .ok (.imul, 1) := by decide +kernel
theorem dL_word_44 : decode cL_word 44 = .ok (.iadd, 1) := by decide +kernel
theorem dL_word_45 : decode cL_word 45 = .ok (.bipush 10, 2) := by decide +kernel
theorem dL_word_47 : decode cL_word 47 = .ok (.irem, 1) := by decide +kernel
theorem dL_word_48 : decode cL_word 48 = .ok (.iadd, 1) := by decide +kernel
theorem dL_word_49 : decode cL_word 49 = .ok (.goto 18, 3) := by decide +kernel
theorem dL_word_52 : decode cL_word 52 = .ok (.bipush 97, 2) := by decide +kernel
theorem dL_word_54 : decode cL_word 54 = .ok (.iload_n 1, 1) := by decide +kernel
theorem dL_word_55 : decode cL_word 55 = .ok (.bipush 7, 2) := by decide +kernel
theorem dL_word_57 : decode cL_word 57 = .ok (.idiv, 1) := by decide +kernel
theorem dL_word_58 : decode cL_word 58 = .ok (.iconst 5, 1) := by decide +kernel
theorem dL_word_59 : decode cL_word 59 = .ok (.iload 4, 2) := by decide +kernel
theorem dL_word_61 : decode cL_word 61 = .ok (.imul, 1) := by decide +kernel
theorem dL_word_62 : decode cL_word 62 = .ok (.iadd, 1) := by decide +kernel
theorem dL_word_63 : decode cL_word 63 = .ok (.bipush 26, 2) := by decide +kernel
theorem dL_word_65 : decode cL_word 65 = .ok (.irem, 1) := by decide +kernel
theorem dL_word_66 : decode cL_word 66 = .ok (.iadd, 1) := by decide +kernel
theorem dL_word_67 : decode cL_word 67 = .ok (.i2c, 1) := by decide +kernel
theorem dL_word_68 : decode cL_word 68 = .ok (.invokevirtual 47, 3) := by decide +kernel
theorem dL_word_71 : decode cL_word 71 = .ok (.pop, 1) := by decide +kernel
theorem dL_word_72 : decode cL_word 72 = .ok (.iinc 4 1, 3) := by decide +kernel
theorem dL_word_75 : decode cL_word 75 = .ok (.goto (-54), 3) := by decide +kernel
theorem dL_word_78 : decode cL_word 78 = .ok (.return_, 1) := by decide +kernel
theorem dL_load_0 : decode cL_load 0 = .ok (.iconst 4, 1) := by decide +kernel
theorem dL_load_1 : decode cL_load 1 = .ok (.aload_n 1, 1) := by decide +kernel
theorem dL_load_2 : decode cL_load 2 = .ok (.iconst 0, 1) := by decide +kernel
theorem dL_load_3 : decode cL_load 3 = .ok (.bipush 21, 2) := by decide +kernel
theorem dL_load_5 : decode cL_load 5 = .ok (.invokestatic 50, 3) := by decide +kernel
theorem dL_load_8 : decode cL_load 8 = .ok (.iadd, 1) := by decide +kernel
theorem dL_load_9 : decode cL_load 9 = .ok (.istore_n 2, 1) := by decide +kernel
theorem dL_load_10 : decode cL_load 10 = .ok (.iconst 2, 1) := by decide +kernel
theorem dL_load_11 : decode cL_load 11 = .ok (.aload_n 1, 1) := by decide +kernel
theorem dL_load_12 : decode cL_load 12 = .ok (.iconst 1, 1) := by decide +kernel
theorem dL_load_13 : decode cL_load 13 = .ok (.bipush 11, 2) := by decide +kernel
theorem dL_load_15 : decode cL_load 15 = .ok (.invokestatic 50, 3) := by decide +kernel
theorem dL_load_18 : decode cL_load 18 = .ok (.iadd, 1) := by decide +kernel
theorem dL_load_19 : decode cL_load 19 = .ok (.istore_n 3, 1) := by decide +kernel
theorem dL_load_20 : decode cL_load 20 = .ok (.new 43, 3) := by decide +kernel
theorem dL_load_23 : decode cL_load 23 = .ok (.dup, 1) := by decide +kernel
theorem dL_load_24 : decode cL_load 24 = .ok (.ldc 54, 2) := by decide +kernel
theorem dL_load_26 : decode cL_load 26 = .ok (.invokespecial 56, 3) := by decide +kernel
theorem dL_load_29 : decode cL_load 29 = .ok (.iload_n 2, 1) := by decide +kernel
theorem dL_load_30 : decode cL_load 30 = .ok (.invokevirtual 59, 3) := by decide +kernel
theorem dL_load_33 : decode cL_load 33 = .ok (.ldc 40, 2) := by decide +kernel
theorem dL_load_35 : decode cL_load 35 = .ok (.invokevirtual 42, 3) := by decide +kernel
theorem dL_load_38 : decode cL_load 38 = .ok (.iload_n 3, 1) := by decide +kernel
theorem dL_load_39 : decode cL_load 39 = .ok (.invokevirtual 59, 3) := by decide +kernel
theorem dL_load_42 : decode cL_load 42 = .ok (.ldc 62, 2) := by decide +kernel
theorem dL_load_44 : decode cL_load 44 = .ok (.invokevirtual 42, 3) := by decide +kernel
theorem dL_load_47 : decode cL_load 47 = .ok (.astore 4, 2) := by decide +kernel
theorem dL_load_49 : decode cL_load 49 = .ok (.aload_n 1, 1) := by decide +kernel
theorem dL_load_50 : decode cL_load 50 = .ok (.iconst 2, 1) := by decide +kernel
theorem dL_load_51 : decode cL_load 51 = .ok (.bipush 9, 2) := by decide +kernel
theorem dL_load_53 : decode cL_load 53 = .ok (.invokestatic 50, 3) := by decide +kernel
theorem dL_load_56 : decode cL_load 56 = .ok (.istore 5, 2) := by decide +kernel
theorem dL_load_58 : decode cL_load 58 = .ok (.iconst 0, 1) := by decide +kernel
theorem dL_load_59 : decode cL_load 59 = .ok (.istore 6, 2) := by decide +kernel
theorem dL_load_61 : decode cL_load 61 = .ok (.iconst 0, 1) := by decide +kernel
theorem dL_load_62 : decode cL_load 62 = .ok (.istore 7, 2) := by decide +kernel
theorem dL_load_64 : decode cL_load 64 = .ok (.iload 7, 2) := by decide +kernel
theorem dL_load_66 : decode cL_load 66 = .ok (.iload 5, 2) := by decide +kernel
theorem dL_load_68 : decode cL_load 68 = .ok (.if_icmp .ge 110, 3) := by decide +kernel
theorem dL_load_71 : decode cL_load 71 = .ok (.aload_n 1, 1) := by decide +kernel
theorem dL_load_72 : decode cL_load 72 = .ok (.iconst 3, 1) := by decide +kernel
theorem dL_load_73 : decode cL_load 73 = .ok (.iload 7, 2) := by decide +kernel
theorem dL_load_75 : decode cL_load 75 = .ok (.iadd, 1) := by decide +kernel
theorem dL_load_76 : decode cL_load 76 = .ok (.iload_n 2, 1) := by decide +kernel
theorem dL_load_77 : decode cL_load 77 = .ok (.iload_n 3, 1) := by decide +kernel
theorem dL_load_78 : decode cL_load 78 = .ok (.imul, 1) := by decide +kernel
theorem dL_load_79 : decode cL_load 79 = .ok (.invokestatic 50, 3) := by decide +kernel
theorem dL_load_82 : decode cL_load 82 = .ok (.istore 8, 2) := by decide +kernel
theorem dL_load_84 : decode cL_load 84 = .ok (.iconst 0, 1) := by decide +kernel
theorem dL_load_85 : decode cL_load 85 = .ok (.istore 9, 2) := by decide +kernel
theorem dL_load_87 : decode cL_load 87 = .ok (.iconst 0, 1) := by decide +kernel
theorem dL_load_88 : decode cL_load 88 = .ok (.istore 10, 2) := by decide +kernel
theorem dL_load_90 : decode cL_load 90 = .ok (.iload 10, 2) := by decide +kernel
theorem dL_load_92 : decode cL_load 92 = .ok (.iload 7, 2) := by decide +kernel
theorem dL_load_94 : decode cL_load 94 = .ok (.if_icmp .ge 35, 3) := by decide +kernel
theorem dL_load_97 : decode cL_load 97 = .ok (.iload 9, 2) := by decide +kernel
theorem dL_load_99 : decode cL_load 99 = .ok (.aload_n 1, 1) := by decide +kernel
theorem dL_load_100 : decode cL_load 100 = .ok (.iconst 3, 1) := by decide +kernel
theorem dL_load_101 : decode cL_load 101 = .ok (.iload 10, 2) := by decide +kernel
theorem dL_load_103 : decode cL_load 103 = .ok (.iadd, 1) := by decide +kernel
theorem dL_load_104 : decode cL_load 104 = .ok (.iload_n 2, 1) := by decide +kernel
theorem dL_load_105 : decode cL_load 105 = .ok (.iload_n 3, 1) := by decide +kernel
theorem dL_load_106 : decode cL_load 106 = .ok (.imul, 1) := by decide +kernel
theorem dL_load_107 : decode cL_load 107 = .ok (.invokestatic 50, 3) := by decide +kernel
theorem dL_load_110 : decode cL_load 110 = .ok (.iload 8, 2) := by decide +kernel
theorem dL_load_112 : decode cL_load 112 = .ok (.if_icmp .ne 7, 3) := by decide +kernel
theorem dL_load_115 : decode cL_load 115 = .ok (.iconst 1, 1) := by decide +kernel
theorem dL_load_116 : decode cL_load 116 = .ok (.goto 4, 3) := by decide +kernel
theorem dL_load_119 : decode cL_load 119 = .ok (.iconst 0, 1) := by decide +kernel
theorem dL_load_120 : decode cL_load 120 = .ok (.ior, 1) := by decide +kernel
theorem dL_load_121 : decode cL_load 121 = .ok (.istore 9, 2) := by decide +kernel
theorem dL_load_123 : decode cL_load 123 = .ok (.iinc 10 1, 3) := by decide +kernel
theorem dL_load_126 : decode cL_load 126 = .ok (.goto (-36), 3) := by decide +kernel
theorem dL_load_129 : decode cL_load 129 = .ok (.iload 9, 2) := by decide +kernel
theorem dL_load_131 : decode cL_load 131 = .ok (.ifCond .eq 6, 3) := by decide +kernel
theorem dL_load_134 : decode cL_load 134 = .ok (.goto 38, 3) := by decide +kernel
theorem dL_load_137 : decode cL_load 137 = .ok (.aload 4, 2) := by decide +kernel
theorem dL_load_139 : decode cL_load 139 = .ok (.ldc 64, 2) := by decide +kernel
theorem dL_load_141 : decode cL_load 141 = .ok (.invokevirtual 42, 3) := by decide +kernel
theorem dL_load_144 : decode cL_load 144 = .ok (.iload 8, 2) := by decide +kernel
theorem dL_load_146 : decode cL_load 146 = .ok (.iload_n 2, 1) := by decide +kernel
theorem dL_load_147 : decode cL_load 147 = .ok (.irem, 1) := by decide +kernel
theorem dL_load_148 : decode cL_load 148 = .ok (.invokevirtual 59, 3) := by decide +kernel
theorem dL_load_151 : decode cL_load 151 = .ok (.ldc 40, 2) := by decide +kernel
theorem dL_load_153 : decode cL_load 153 = .ok (.invokevirtual 42, 3) := by decide +kernel
theorem dL_load_156 : decode cL_load 156 = .ok (.iload 8, 2) := by decide +kernel
theorem dL_load_158 : decode cL_load 158 = .ok (.iload_n 2, 1) := by decide +kernel
theorem dL_load_159 : decode cL_load 159 = .ok (.idiv, 1) := by decide +kernel
theorem dL_load_160 : decode cL_load 160 = .ok (.invokevirtual 59, 3) := by decide +kernel
theorem dL_load_163 : decode cL_load 163 = .ok (.ldc 62, 2) := by decide +kernel
theorem dL_load_165 : decode cL_load 165 = .ok (.invokevirtual 42, 3) := by decide +kernel
theorem dL_load_168 : decode cL_load 168 = .ok (.pop, 1) := by decide +kernel
theorem dL_load_169 : decode cL_load 169 = .ok (.iinc 6 1, 3) := by decide +kernel
theorem dL_load_172 : decode cL_load 172 = .ok (.iinc 7 1, 3) := by decide +kernel
theorem dL_load_175 : decode cL_load 175 = .ok (.goto (-111), 3) := by decide +kernel
theorem dL_load_178 : decode cL_load 178 = .ok (.aload_n 1, 1) := by decide +kernel
theorem dL_load_179 : decode cL_load 179 = .ok (.bipush 12, 2) := by decide +kernel
theorem dL_load_181 : decode cL_load 181 = .ok (.iconst 4, 1) := by decide +kernel
theorem dL_load_182 : decode cL_load 182 = .ok (.invokestatic 50, 3) := by decide +kernel
theorem dL_load_185 : decode cL_load 185 = .ok (.istore 7, 2) := by decide +kernel
theorem dL_load_187 : decode cL_load 187 = .ok (.aload_n 1, 1) := by decide +kernel
theorem dL_load_188 : decode cL_load 188 = .ok (.bipush 13, 2) := by decide +kernel
theorem dL_load_190 : decode cL_load 190 = .ok (.iconst 2, 1) := by decide +kernel
theorem dL_load_191 : decode cL_load 191 = .ok (.invokestatic 50, 3) := by decide +kernel
theorem dL_load_194 : decode cL_load 194 = .ok (.ifCond .ne 21, 3) := by decide +kernel
theorem dL_load_197 : decode cL_load 197 = .ok (.aload 4, 2) := by decide +kernel
theorem dL_load_199 : decode cL_load 199 = .ok (.ldc 66, 2) := by decide +kernel
theorem dL_load_201 : decode cL_load 201 = .ok (.invokevirtual 42, 3) := by decide +kernel
theorem dL_load_204 : decode cL_load 204 = .ok (.iload 7, 2) := by decide +kernel
theorem dL_load_206 : decode cL_load 206 = .ok (.invokevirtual 59, 3) := by decide +kernel
theorem dL_load_209 : decode cL_load 209 = .ok (.ldc 62, 2) := by decide +kernel
theorem dL_load_211 : decode cL_load 211 = .ok (.invokevirtual 42, 3) := by decide +kernel
theorem dL_load_214 : decode cL_load 214 = .ok (.pop, 1) := by decide +kernel
theorem dL_load_215 : decode cL_load 215 = .ok (.iconst 1, 1) := by decide +kernel
theorem dL_load_216 : decode cL_load 216 = .ok (.aload_n 1, 1) := by decide +kernel
theorem dL_load_217 : decode cL_load 217 = .ok (.bipush 14, 2) := by decide +kernel
theorem dL_load_219 : decode cL_load 219 = .ok (.bipush 40, 2) := by decide +kernel
theorem dL_load_221 : decode cL_load 221 = .ok (.invokestatic 50, 3) := by decide +kernel
theorem dL_load_224 : decode cL_load 224 = .ok (.iadd, 1) := by decide +kernel
theorem dL_load_225 : decode cL_load 225 = .ok (.istore 8, 2) := by decide +kernel
theorem dL_load_227 : decode cL_load 227 = .ok (.aload_n 1, 1) := by decide +kernel
theorem dL_load_228 : decode cL_load 228 = .ok (.bipush 15, 2) := by decide +kernel
theorem dL_load_230 : decode cL_load 230 = .ok (.bipush 100, 2) := by decide +kernel
theorem dL_load_232 : decode cL_load 232 = .ok (.invokestatic 50, 3) := by decide +kernel
theorem dL_load_235 : decode cL_load 235 = .ok (.istore 9, 2) := by decide +kernel
theorem dL_load_237 : decode cL_load 237 = .ok (.aload_n 1, 1) := by decide +kernel
theorem dL_load_238 : decode cL_load 238 = .ok (.bipush 16, 2) := by decide +kernel
theorem dL_load_240 : decode cL_load 240 = .ok (.iconst 2, 1) := by decide +kernel
theorem dL_load_241 : decode cL_load 241 = .ok (.invokestatic 50, 3) := by decide +kernel
theorem dL_load_244 : decode cL_load 244 = .ok (.ifCond .ne 31, 3) := by decide +kernel
theorem dL_load_247 : decode cL_load 247 = .ok (.aload 4, 2) := by decide +kernel
theorem dL_load_249 : decode cL_load 249 = .ok (.ldc 68, 2) := by decide +kernel
theorem dL_load_251 : decode cL_load 251 = .ok (.invokevirtual 42, 3) := by decide +kernel
theorem dL_load_254 : decode cL_load 254 = .ok (.iload 8, 2) := by decide +kernel
theorem dL_load_256 : decode cL_load 256 = .ok (.invokevirtual 59, 3) := by decide +kernel
theorem dL_load_259 : decode cL_load 259 = .ok (.ldc 40, 2) := by decide +kernel
theorem dL_load_261 : decode cL_load 261 = .ok (.invokevirtual 42, 3) := by decide +kernel
theorem dL_load_264 : decode cL_load 264 = .ok (.iload 9, 2) := by decide +kernel
theorem dL_load_266 : decode cL_load 266 = .ok (.invokevirtual 59, 3) := by decide +kernel
theorem dL_load_269 : decode cL_load 269 = .ok (.ldc 62, 2) := by decide +kernel
theorem dL_load_271 : decode cL_load 271 = .ok (.invokevirtual 42, 3) := by decide +kernel
theorem dL_load_274 : decode cL_load 274 = .ok (.pop, 1) := by decide +kernel
theorem dL_load_275 : decode cL_load 275 = .ok (.aload_n 1, 1) := by decide +kernel
theorem dL_load_276 : decode cL_load 276 = .ok (.bipush 17, 2) := by decide +kernel
theorem dL_load_278 : decode cL_load 278 = .ok (.iconst 4, 1) := by decide +kernel
theorem dL_load_279 : decode cL_load 279 = .ok (.invokestatic 50, 3) := by decide +kernel
theorem dL_load_282 : decode cL_load 282 = .ok (.istore 10, 2) := by decide +kernel
theorem dL_load_284 : decode cL_load 284 = .ok (.iconst 0, 1) := by decide +kernel
theorem dL_load_285 : decode cL_load 285 = .ok (.istore 11, 2) := by decide +kernel
theorem dL_load_287 : decode cL_load 287 = .ok (.iconst 0, 1) := by decide +kernel
theorem dL_load_288 : decode cL_load 288 = .ok (.istore 12, 2) := by decide +kernel
theorem dL_load_290 : decode cL_load 290 = .ok (.iload 12, 2) := by decide +kernel
theorem dL_load_292 : decode cL_load 292 = .ok (.iload 10, 2) := by decide +kernel
theorem dL_load_294 : decode cL_load 294 = .ok (.if_icmp .ge 118, 3) := by decide +kernel
theorem dL_load_297 : decode cL_load 297 = .ok (.iconst 1, 1) := by decide +kernel
theorem dL_load_298 : decode cL_load 298 = .ok (.aload_n 1, 1) := by decide +kernel
theorem dL_load_299 : decode cL_load 299 = .ok (.bipush 18, 2) := by decide +kernel
theorem dL_load_301 : decode cL_load 301 = .ok (.iload 12, 2) := by decide +kernel
theorem dL_load_303 : decode cL_load 303 = .ok (.iadd, 1) := by decide +kernel
theorem dL_load_304 : decode cL_load 304 = .ok (.iconst 5, 1) := by decide +kernel
theorem dL_load_305 : decode cL_load 305 = .ok (.invokestatic 50, 3) := by decide +kernel
theorem dL_load_308 : decode cL_load 308 = .ok (.iadd, 1) := by decide +kernel
theorem dL_load_309 : decode cL_load 309 = .ok (.istore 13, 2) := by decide +kernel
theorem dL_load_311 : decode cL_load 311 = .ok (.aload_n 1, 1) := by decide +kernel
theorem dL_load_312 : decode cL_load 312 = .ok (.bipush 22, 2) := by decide +kernel
theorem dL_load_314 : decode cL_load 314 = .ok (.iload 12, 2) := by decide +kernel
theorem dL_load_316 : decode cL_load 316 = .ok (.iadd, 1) := by decide +kernel
theorem dL_load_317 : decode cL_load 317 = .ok (.iconst 3, 1) := by decide +kernel
theorem dL_load_318 : decode cL_load 318 = .ok (.invokestatic 50, 3) := by decide +kernel
theorem dL_load_321 : decode cL_load 321 = .ok (.istore 14, 2) := by decide +kernel
theorem dL_load_323 : decode cL_load 323 = .ok (.aload 4, 2) := by decide +kernel
theorem dL_load_325 : decode cL_load 325 = .ok (.iload 14, 2) := by decide +kernel
theorem dL_load_327 : decode cL_load 327 = .ok (.ifCond .ne 8, 3) := by decide +kernel
theorem dL_load_330 : decode cL_load 330 = .ok (.ldc 70, 2) := by decide +kernel
theorem dL_load_332 : decode cL_load 332 = .ok (.goto 16, 3) := by decide +kernel
theorem dL_load_335 : decode cL_load 335 = .ok (.iload 14, 2) := by decide +kernel
theorem dL_load_337 : decode cL_load 337 = .ok (.iconst 1, 1) := by decide +kernel
theorem dL_load_338 : decode cL_load 338 = .ok (.if_icmp .ne 8, 3) := by decide +kernel
theorem dL_load_341 : decode cL_load 341 = .ok (.ldc 72, 2) := by decide +kernel
theorem dL_load_343 : decode cL_load 343 = .ok (.goto 5, 3) := by decide +kernel
theorem dL_load_346 : decode cL_load 346 = .ok (.ldc 74, 2) := by decide +kernel
theorem dL_load_348 : decode cL_load 348 = .ok (.invokevirtual 42, 3) := by decide +kernel
theorem dL_load_351 : decode cL_load 351 = .ok (.pop, 1) := by decide +kernel
theorem dL_load_352 : decode cL_load 352 = .ok (.iconst 0, 1) := by decide +kernel
theorem dL_load_353 : decode cL_load 353 = .ok (.istore 15, 2) := by decide +kernel
theorem dL_load_355 : decode cL_load 355 = .ok (.iload 15, 2) := by decide +kernel
theorem dL_load_357 : decode cL_load 357 = .ok (.iload 13, 2) := by decide +kernel
theorem dL_load_359 : decode cL_load 359 = .ok (.if_icmp .ge 32, 3) := by decide +kernel
theorem dL_load_362 : decode cL_load 362 = .ok (.aload 4, 2) := by decide +kernel
theorem dL_load_364 : decode cL_load 364 = .ok (.aload_n 1, 1) := by decide +kernel
theorem dL_load_365 : decode cL_load 365 = .ok (.bipush 26, 2) := by decide +kernel
theorem dL_load_367 : decode cL_load 367 = .ok (.iconst 5, 1) := by decide +kernel
theorem dL_load_368 : decode cL_load 368 = .ok (.iload 12, 2) := by decide +kernel
theorem dL_load_370 : decode cL_load 370 = .ok (.imul, 1) := by decide +kernel
theorem dL_load_371 : decode cL_load 371 = .ok (.iadd, 1) := by decide +kernel
theorem dL_load_372 : decode cL_load 372 = .ok (.iload 15, 2) := by decide +kernel
theorem dL_load_374 : decode cL_load 374 = .ok (.iadd, 1) := by decide +kernel
theorem dL_load_375 : decode cL_load 375 = .ok (.sipush 10000, 3) := by decide +kernel
theorem dL_load_378 : decode cL_load 378 = .ok (.invokestatic 50, 3) := by decide +kernel
theorem dL_load_381 : decode cL_load 381 = .ok (.iload_n 2, 1) := by decide +kernel
theorem dL_load_382 : decode cL_load 382 = .ok (.invokestatic 76, 3) := by decide +kernel
theorem dL_load_385 : decode cL_load 385 = .ok (.iinc 15 1, 3) := by decide +kernel
theorem dL_load_388 : decode cL_load 388 = .ok (.goto (-33), 3) := by decide +kernel
theorem dL_load_391 : decode cL_load 391 = .ok (.aload 4, 2) := by decide +kernel
theorem dL_load_393 : decode cL_load 393 = .ok (.ldc 62, 2) := by decide +kernel
theorem dL_load_395 : decode cL_load 395 = .ok (.invokevirtual 42, 3) := by decide +kernel
theorem dL_load_398 : decode cL_load 398 = .ok (.pop, 1) := by decide +kernel
theorem dL_load_399 : decode cL_load 399 = .ok (.iload 11, 2) := by decide +kernel
theorem dL_load_401 : decode cL_load 401 = .ok (.iload 13, 2) := by decide +kernel
theorem dL_load_403 : decode cL_load 403 = .ok (.iadd, 1) := by decide +kernel
theorem dL_load_404 : decode cL_load 404 = .ok (.istore 11, 2) := by decide +kernel
theorem dL_load_406 : decode cL_load 406 = .ok (.iinc 12 1, 3) := by decide +kernel
theorem dL_load_409 : decode cL_load 409 = .ok (.goto (-119), 3) := by decide +kernel
theorem dL_load_412 : decode cL_load 412 = .ok (.aload_n 0, 1) := by decide +kernel
theorem dL_load_413 : decode cL_load 413 = .ok (.aload 4, 2) := by decide +kernel
theorem dL_load_415 : decode cL_load 415 = .ok (.invokevirtual 80, 3) := by decide +kernel
theorem dL_load_418 : decode cL_load 418 = .ok (.invokestatic 84, 3) := by decide +kernel
theorem dL_load_421 : decode cL_load 421 = .ok (.aload_n 0, 1) := by decide +kernel
theorem dL_load_422 : decode cL_load 422 = .ok (.invokevirtual 88, 3) := by decide +kernel
theorem dL_load_425 : decode cL_load 425 = .ok (.istore 12, 2) := by decide +kernel
theorem dL_load_427 : decode cL_load 427 = .ok (.iload 12, 2) := by decide +kernel
theorem dL_load_429 : decode cL_load 429 = .ok (.ifCond .lt 62, 3) := by decide +kernel
theorem dL_load_432 : decode cL_load 432 = .ok (.aload_n 0, 1) := by decide +kernel
theorem dL_load_433 : decode cL_load 433 = .ok (.invokevirtual 91, 3) := by decide +kernel
theorem dL_load_436 : decode cL_load 436 = .ok (.ifCond .ne 55, 3) := by decide +kernel
theorem dL_load_439 : decode cL_load 439 = .ok (.aload_n 0, 1) := by decide +kernel
theorem dL_load_440 : decode cL_load 440 = .ok (.iconst 0, 1) := by decide +kernel
theorem dL_load_441 : decode cL_load 441 = .ok (.invokevirtual 94, 3) := by decide +kernel
theorem dL_load_444 : decode cL_load 444 = .ok (.iload_n 2, 1) := by decide +kernel
theorem dL_load_445 : decode cL_load 445 = .ok (.if_icmp .ne 46, 3) := by decide +kernel
theorem dL_load_448 : decode cL_load 448 = .ok (.aload_n 0, 1) := by decide +kernel
theorem dL_load_449 : decode cL_load 449 = .ok (.iconst 1, 1) := by decide +kernel
theorem dL_load_450 : decode cL_load 450 = .ok (.invokevirtual 94, 3) := by decide +kernel
theorem dL_load_453 : decode cL_load 453 = .ok (.iload_n 3, 1) := by decide +kernel
theorem dL_load_454 : decode cL_load 454 = .ok (.if_icmp .ne 37, 3) := by decide +kernel
theorem dL_load_457 : decode cL_load 457 = .ok (.aload_n 0, 1) := by decide +kernel
theorem dL_load_458 : decode cL_load 458 = .ok (.iconst 2, 1) := by decide +kernel
theorem dL_load_459 : decode cL_load 459 = .ok (.invokevirtual 94, 3) := by decide +kernel
theorem dL_load_462 : decode cL_load 462 = .ok (.iload 6, 2) := by decide +kernel
theorem dL_load_464 : decode cL_load 464 = .ok (.if_icmp .ne 27, 3) := by decide +kernel
theorem dL_load_467 : decode cL_load 467 = .ok (.aload_n 0, 1) := by decide +kernel
theorem dL_load_468 : decode cL_load 468 = .ok (.iconst 3, 1) := by decide +kernel
theorem dL_load_469 : decode cL_load 469 = .ok (.invokevirtual 94, 3) := by decide +kernel
theorem dL_load_472 : decode cL_load 472 = .ok (.aload_n 1, 1) := by decide +kernel
theorem dL_load_473 : decode cL_load 473 = .ok (.bipush 13, 2) := by decide +kernel
theorem dL_load_475 : decode cL_load 475 = .ok (.iconst 2, 1) := by decide +kernel
theorem dL_load_476 : decode cL_load 476 = .ok (.invokestatic 50, 3) := by decide +kernel
theorem dL_load_479 : decode cL_load 479 = .ok (.ifCond .ne 8, 3) := by decide +kernel
theorem dL_load_482 : decode cL_load 482 = .ok (.iload 7, 2) := by decide +kernel
theorem dL_load_484 : decode cL_load 484 = .ok (.goto 4, 3) := by decide +kernel
theorem dL_load_487 : decode cL_load 487 = .ok (.iconst 0, 1) := by decide +kernel
theorem dL_load_488 : decode cL_load 488 = .ok (.if_icmp .eq 5, 3) := by decide +kernel
theorem dL_load_491 : decode cL_load 491 = .ok (.iconst 0, 1) := by decide +kernel
theorem dL_load_492 : decode cL_load 492 = .ok (.ireturn, 1) := by decide +kernel
theorem dL_load_493 : decode cL_load 493 = .ok (.aload_n 0, 1) := by decide +kernel
theorem dL_load_494 : decode cL_load 494 = .ok (.iconst 4, 1) := by decide +kernel
theorem dL_load_495 : decode cL_load 495 = .ok (.invokevirtual 94, 3) := by decide +kernel
theorem dL_load_498 : decode cL_load 498 = .ok (.iload 10, 2) := by decide +kernel
theorem dL_load_500 : decode cL_load 500 = .ok (.if_icmp .ne 104, 3) := by decide +kernel
theorem dL_load_503 : decode cL_load 503 = .ok (.aload_n 0, 1) := by decide +kernel
theorem dL_load_504 : decode cL_load 504 = .ok (.iconst 5, 1) := by decide +kernel
theorem dL_load_505 : decode cL_load 505 = .ok (.invokevirtual 94, 3) := by decide +kernel
theorem dL_load_508 : decode cL_load 508 = .ok (.iload 11, 2) := by decide +kernel
theorem dL_load_510 : decode cL_load 510 = .ok (.if_icmp .ne 94, 3) := by decide +kernel
theorem dL_load_513 : decode cL_load 513 = .ok (.aload_n 0, 1) := by decide +kernel
theorem dL_load_514 : decode cL_load 514 = .ok (.bipush 6, 2) := by decide +kernel
theorem dL_load_516 : decode cL_load 516 = .ok (.invokevirtual 94, 3) := by decide +kernel
theorem dL_load_519 : decode cL_load 519 = .ok (.iload 12, 2) := by decide +kernel
theorem dL_load_521 : decode cL_load 521 = .ok (.if_icmp .ne 83, 3) := by decide +kernel
theorem dL_load_524 : decode cL_load 524 = .ok (.aload_n 0, 1) := by decide +kernel
theorem dL_load_525 : decode cL_load 525 = .ok (.bipush 8, 2) := by decide +kernel
theorem dL_load_527 : decode cL_load 527 = .ok (.invokevirtual 94, 3) := by decide +kernel
theorem dL_load_530 : decode cL_load 530 = .ok (.ifCond .ne 74, 3) := by decide +kernel
theorem dL_load_533 : decode cL_load 533 = .ok (.aload_n 0, 1) := by decide +kernel
theorem dL_load_534 : decode cL_load 534 = .ok (.bipush 9, 2) := by decide +kernel
theorem dL_load_536 : decode cL_load 536 = .ok (.invokevirtual 94, 3) := by decide +kernel
theorem dL_load_539 : decode cL_load 539 = .ok (.aload_n 0, 1) := by decide +kernel
theorem dL_load_540 : decode cL_load 540 = .ok (.bipush 10, 2) := by decide +kernel
theorem dL_load_542 : decode cL_load 542 = .ok (.invokevirtual 94, 3) := by decide +kernel
theorem dL_load_545 : decode cL_load 545 = .ok (.if_icmp .ne 59, 3) := by decide +kernel
theorem dL_load_548 : decode cL_load 548 = .ok (.aload_n 0, 1) := by decide +kernel
theorem dL_load_549 : decode cL_load 549 = .ok (.bipush 10, 2) := by decide +kernel
theorem dL_load_551 : decode cL_load 551 = .ok (.invokevirtual 94, 3) := by decide +kernel
theorem dL_load_554 : decode cL_load 554 = .ok (.aload_n 1, 1) := by decide +kernel
theorem dL_load_555 : decode cL_load 555 = .ok (.bipush 16, 2) := by decide +kernel
theorem dL_load_557 : decode cL_load 557 = .ok (.iconst 2, 1) := by decide +kernel
theorem dL_load_558 : decode cL_load 558 = .ok (.invokestatic 50, 3) := by decide +kernel
theorem dL_load_561 : decode cL_load 561 = .ok (.ifCond .ne 8, 3) := by decide +kernel
theorem dL_load_564 : decode cL_load 564 = .ok (.iload 8, 2) := by decide +kernel
theorem dL_load_566 : decode cL_load 566 = .ok (.goto 5, 3) := by decide +kernel
theorem dL_load_569 : decode cL_load 569 = .ok (.bipush 100, 2) := by decide +kernel
theorem dL_load_571 : decode cL_load 571 = .ok (.if_icmp .ne 33, 3) := by decide +kernel
theorem dL_load_574 : decode cL_load 574 = .ok (.aload_n 0, 1) := by decide +kernel
theorem dL_load_575 : decode cL_load 575 = .ok (.bipush 11, 2) := by decide +kernel
theorem dL_load_577 : decode cL_load 577 = .ok (.invokevirtual 94, 3) := by decide +kernel
theorem dL_load_580 : decode cL_load 580 = .ok (.aload_n 1, 1) := by decide +kernel
theorem dL_load_581 : decode cL_load 581 = .ok (.bipush 16, 2) := by decide +kernel
theorem dL_load_583 : decode cL_load 583 = .ok (.iconst 2, 1) := by decide +kernel
theorem dL_load_584 : decode cL_load 584 = .ok (.invokestatic 50, 3) := by decide +kernel
theorem dL_load_587 : decode cL_load 587 = .ok (.ifCond .ne 8, 3) := by decide +kernel
theorem dL_load_590 : decode cL_load 590 = .ok (.iload 9, 2) := by decide +kernel
theorem dL_load_592 : decode cL_load 592 = .ok (.goto 5, 3) := by decide +kernel
theorem dL_load_595 : decode cL_load 595 = .ok (.bipush 10, 2) := by decide +kernel
theorem dL_load_597 : decode cL_load 597 = .ok (.if_icmp .ne 7, 3) := by decide +kernel
theorem dL_load_600 : decode cL_load 600 = .ok (.iconst 1, 1) := by decide +kernel
theorem dL_load_601 : decode cL_load 601 = .ok (.goto 4, 3) := by decide +kernel
theorem dL_load_604 : decode cL_load 604 = .ok (.iconst 0, 1) := by decide +kernel
theorem dL_load_605 : decode cL_load 605 = .ok (.ireturn, 1) := by decide +kernel
theorem dL_added_0 : decode cL_added 0 = .ok (.aload_n 0, 1) := by decide +kernel
theorem dL_added_1 : decode cL_added 1 = .ok (.iload_n 1, 1) := by decide +kernel
theorem dL_added_2 : decode cL_added 2 = .ok (.invokevirtual 98, 3) := by decide +kernel
theorem dL_added_5 : decode cL_added 5 = .ok (.ireturn, 1) := by decide +kernel
theorem dL_added_6 : decode cL_added 6 = .ok (.astore_n 2, 1) := by decide +kernel
theorem dL_added_7 : decode cL_added 7 = .ok (.bipush (-99), 2) := by decide +kernel
theorem dL_added_9 : decode cL_added 9 = .ok (.ireturn, 1) := by decide +kernel
theorem dL_dropped_0 : decode cL_dropped 0 = .ok (.aload_n 0, 1) := by decide +kernel
theorem dL_dropped_1 : decode cL_dropped 1 = .ok (.iload_n 1, 1) := by decide +kernel
theorem dL_dropped_2 : decode cL_dropped 2 = .ok (.invokevirtual 103, 3) := by decide +kernel
theorem dL_dropped_5 : decode cL_dropped 5 = .ok (.ireturn, 1) := by decide +kernel
theorem dL_dropped_6 : decode cL_dropped 6 = .ok (.astore_n 2, 1) := by decide +kernel
theorem dL_dropped_7 : decode cL_dropped 7 = .ok (.bipush (-99), 2) := by decide +kernel
theorem dL_dropped_9 : decode cL_dropped 9 = .ok (.ireturn, 1) := by decide +kernel
theorem dL_moved_0 : decode cL_moved 0 = .ok (.aload_n 0, 1) := by decide +kernel
theorem dL_moved_1 : decode cL_moved 1 = .ok (.iload_n 1, 1) := by decide +kernel
theorem dL_moved_2 : decode cL_moved 2 = .ok (.iload_n 2, 1) := by decide +kernel
theorem dL_moved_3 : decode cL_moved 3 = .ok (.invokevirtual 106, 3) := by decide +kernel
theorem dL_moved_6 : decode cL_moved 6 = .ok (.ireturn, 1) := by decide +kernel
theorem dL_moved_7 : decode cL_moved 7 = .ok (.astore_n 3, 1) := by decide +kernel
theorem dL_moved_8 : decode cL_moved 8 = .ok (.bipush (-99), 2) := by decide +kernel
theorem dL_moved_10 : decode cL_moved 10 = .ok (.ireturn, 1) := by decide +kernel
theorem dL_flawed_0 : decode cL_flawed 0 = .ok (.aload_n 0, 1) := by decide +kernel
theorem dL_flawed_1 : decode cL_flawed 1 = .ok (.iload_n 1, 1) := by decide +kernel
theorem dL_flawed_2 : decode cL_flawed 2 = .ok (.iload_n 2, 1) := by decide +kernel
theorem dL_flawed_3 : decode cL_flawed 3 = .ok (.iload_n 3, 1) := by decide +kernel
theorem dL_flawed_4 : decode cL_flawed 4 = .ok (.invokevirtual 109, 3) := by decide +kernel
theorem dL_flawed_7 : decode cL_flawed 7 = .ok (.ifCond .eq 7, 3) := by decide +kernel
theorem dL_flawed_10 : decode cL_flawed 10 = .ok (.iconst 1, 1) := by decide +kernel
theorem dL_flawed_11 : decode cL_flawed 11 = .ok (.goto 4, 3) := by decide +kernel
theorem dL_flawed_14 : decode cL_flawed 14 = .ok (.iconst 0, 1) := by decide +kernel
theorem dL_flawed_15 : decode cL_flawed 15 = .ok (.ireturn, 1) := by decide +kernel
theorem dL_flawed_16 : decode cL_flawed 16 = .ok (.astore 4, 2) := by decide +kernel
theorem dL_flawed_18 : decode cL_flawed 18 = .ok (.bipush (-99), 2) := by decide +kernel
theorem dL_flawed_20 : decode cL_flawed 20 = .ok (.ireturn, 1) := by decide +kernel
theorem dL_spaced_0 : decode cL_spaced 0 = .ok (.aload_n 0, 1) := by decide +kernel
theorem dL_spaced_1 : decode cL_spaced 1 = .ok (.iload_n 1, 1) := by decide +kernel
theorem dL_spaced_2 : decode cL_spaced 2 = .ok (.invokevirtual 113, 3) := by decide +kernel
theorem dL_spaced_5 : decode cL_spaced 5 = .ok (.ireturn, 1) := by decide +kernel
theorem dL_spaced_6 : decode cL_spaced 6 = .ok (.astore_n 2, 1) := by decide +kernel
theorem dL_spaced_7 : decode cL_spaced 7 = .ok (.bipush (-99), 2) := by decide +kernel
theorem dL_spaced_9 : decode cL_spaced 9 = .ok (.ireturn, 1) := by decide +kernel
theorem dL_turned_0 : decode cL_turned 0 = .ok (.aload_n 0, 1) := by decide +kernel
theorem dL_turned_1 : decode cL_turned 1 = .ok (.invokevirtual 116, 3) := by decide +kernel
theorem dL_turned_4 : decode cL_turned 4 = .ok (.ireturn, 1) := by decide +kernel
theorem dL_turned_5 : decode cL_turned 5 = .ok (.astore_n 1, 1) := by decide +kernel
theorem dL_turned_6 : decode cL_turned 6 = .ok (.bipush (-99), 2) := by decide +kernel
theorem dL_turned_8 : decode cL_turned 8 = .ok (.ireturn, 1) := by decide +kernel
theorem dL_cut_0 : decode cL_cut 0 = .ok (.aload_n 0, 1) := by decide +kernel
theorem dL_cut_1 : decode cL_cut 1 = .ok (.iload_n 1, 1) := by decide +kernel
theorem dL_cut_2 : decode cL_cut 2 = .ok (.iload_n 2, 1) := by decide +kernel
theorem dL_cut_3 : decode cL_cut 3 = .ok (.invokevirtual 119, 3) := by decide +kernel
theorem dL_cut_6 : decode cL_cut 6 = .ok (.ireturn, 1) := by decide +kernel
theorem dL_cut_7 : decode cL_cut 7 = .ok (.astore_n 3, 1) := by decide +kernel
theorem dL_cut_8 : decode cL_cut 8 = .ok (.bipush (-99), 2) := by decide +kernel
theorem dL_cut_10 : decode cL_cut 10 = .ok (.ireturn, 1) := by decide +kernel
theorem dL_act_0 : decode cL_act 0 = .ok (.aload_n 1, 1) := by decide +kernel
theorem dL_act_1 : decode cL_act 1 = .ok (.iload_n 2, 1) := by decide +kernel
theorem dL_act_2 : decode cL_act 2 = .ok (.iconst 1, 1) := by decide +kernel
theorem dL_act_3 : decode cL_act 3 = .ok (.iadd, 1) := by decide +kernel
theorem dL_act_4 : decode cL_act 4 = .ok (.ldc 123, 2) := by decide +kernel
theorem dL_act_6 : decode cL_act 6 = .ok (.invokestatic 50, 3) := by decide +kernel
theorem dL_act_9 : decode cL_act 9 = .ok (.istore_n 3, 1) := by decide +kernel
theorem dL_act_10 : decode cL_act 10 = .ok (.aload_n 1, 1) := by decide +kernel
theorem dL_act_11 : decode cL_act 11 = .ok (.iload_n 2, 1) := by decide +kernel
theorem dL_act_12 : decode cL_act 12 = .ok (.iconst 2, 1) := by decide +kernel
theorem dL_act_13 : decode cL_act 13 = .ok (.iadd, 1) := by decide +kernel
theorem dL_act_14 : decode cL_act 14 = .ok (.ldc 123, 2) := by decide +kernel
theorem dL_act_16 : decode cL_act 16 = .ok (.invokestatic 50, 3) := by decide +kernel
theorem dL_act_19 : decode cL_act 19 = .ok (.istore 4, 2) := by decide +kernel
theorem dL_act_21 : decode cL_act 21 = .ok (.aload_n 0, 1) := by decide +kernel
theorem dL_act_22 : decode cL_act 22 = .ok (.iconst 4, 1) := by decide +kernel
theorem dL_act_23 : decode cL_act 23 = .ok (.invokevirtual 94, 3) := by decide +kernel
theorem dL_act_26 : decode cL_act 26 = .ok (.istore 5, 2) := by decide +kernel
theorem dL_act_28 : decode cL_act 28 = .ok (.aload_n 0, 1) := by decide +kernel
theorem dL_act_29 : decode cL_act 29 = .ok (.iconst 1, 1) := by decide +kernel
theorem dL_act_30 : decode cL_act 30 = .ok (.invokevirtual 94, 3) := by decide +kernel
theorem dL_act_33 : decode cL_act 33 = .ok (.istore 6, 2) := by decide +kernel
theorem dL_act_35 : decode cL_act 35 = .ok (.aload_n 1, 1) := by decide +kernel
theorem dL_act_36 : decode cL_act 36 = .ok (.iload_n 2, 1) := by decide +kernel
theorem dL_act_37 : decode cL_act 37 = .ok (.bipush 18, 2) := by decide +kernel
theorem dL_act_39 : decode cL_act 39 = .ok (.invokestatic 50, 3) := by decide +kernel
theorem dL_act_42 : decode cL_act 42 = .ok (.tableswitch 310 0 14 #[74, 74, 74, 139, 158, 182, 182, 182, 210, 218, 223, 266, 266, 289, 294], 74) := by decide +kernel
theorem dL_act_116 : decode cL_act 116 = .ok (.new 43, 3) := by decide +kernel
theorem dL_act_119 : decode cL_act 119 = .ok (.dup, 1) := by decide +kernel
theorem dL_act_120 : decode cL_act 120 = .ok (.invokespecial 124, 3) := by decide +kernel
theorem dL_act_123 : decode cL_act 123 = .ok (.astore 7, 2) := by decide +kernel
theorem dL_act_125 : decode cL_act 125 = .ok (.iconst 0, 1) := by decide +kernel
theorem dL_act_126 : decode cL_act 126 = .ok (.istore 8, 2) := by decide +kernel
theorem dL_act_128 : decode cL_act 128 = .ok (.iload 8, 2) := by decide +kernel
theorem dL_act_130 : decode cL_act 130 = .ok (.iconst 1, 1) := by decide +kernel
theorem dL_act_131 : decode cL_act 131 = .ok (.iload_n 3, 1) := by decide +kernel
theorem dL_act_132 : decode cL_act 132 = .ok (.iconst 4, 1) := by decide +kernel
theorem dL_act_133 : decode cL_act 133 = .ok (.irem, 1) := by decide +kernel
theorem dL_act_134 : decode cL_act 134 = .ok (.iadd, 1) := by decide +kernel
theorem dL_act_135 : decode cL_act 135 = .ok (.if_icmp .ge 28, 3) := by decide +kernel
theorem dL_act_138 : decode cL_act 138 = .ok (.aload 7, 2) := by decide +kernel
theorem dL_act_140 : decode cL_act 140 = .ok (.iload_n 3, 1) := by decide +kernel
theorem dL_act_141 : decode cL_act 141 = .ok (.iconst 4, 1) := by decide +kernel
theorem dL_act_142 : decode cL_act 142 = .ok (.idiv, 1) := by decide +kernel
theorem dL_act_143 : decode cL_act 143 = .ok (.bipush 31, 2) := by decide +kernel
theorem dL_act_145 : decode cL_act 145 = .ok (.iload 8, 2) := by decide +kernel
theorem dL_act_147 : decode cL_act 147 = .ok (.imul, 1) := by decide +kernel
theorem dL_act_148 : decode cL_act 148 = .ok (.iadd, 1) := by decide +kernel
theorem dL_act_149 : decode cL_act 149 = .ok (.aload_n 0, 1) := by decide +kernel
theorem dL_act_150 : decode cL_act 150 = .ok (.iconst 0, 1) := by decide +kernel
theorem dL_act_151 : decode cL_act 151 = .ok (.invokevirtual 94, 3) := by decide +kernel
theorem dL_act_154 : decode cL_act 154 = .ok (.invokestatic 76, 3) := by decide +kernel
theorem dL_act_157 : decode cL_act 157 = .ok (.iinc 8 1, 3) := by decide +kernel
theorem dL_act_160 : decode cL_act 160 = .ok (.goto (-32), 3) := by decide +kernel
theorem dL_act_163 : decode cL_act 163 = .ok (.aload_n 0, 1) := by decide +kernel
theorem dL_act_164 : decode cL_act 164 = .ok (.aload 7, 2) := by decide +kernel
theorem dL_act_166 : decode cL_act 166 = .ok (.invokevirtual 80, 3) := by decide +kernel
theorem dL_act_169 : decode cL_act 169 = .ok (.invokestatic 84, 3) := by decide +kernel
theorem dL_act_172 : decode cL_act 172 = .ok (.aload_n 0, 1) := by decide +kernel
theorem dL_act_173 : decode cL_act 173 = .ok (.iload 4, 2) := by decide +kernel
theorem dL_act_175 : decode cL_act 175 = .ok (.iconst 3, 1) := by decide +kernel
theorem dL_act_176 : decode cL_act 176 = .ok (.irem, 1) := by decide +kernel
theorem dL_act_177 : decode cL_act 177 = .ok (.invokestatic 125, 3) := by decide +kernel
theorem dL_act_180 : decode cL_act 180 = .ok (.ireturn, 1) := by decide +kernel
theorem dL_act_181 : decode cL_act 181 = .ok (.iload 5, 2) := by decide +kernel
theorem dL_act_183 : decode cL_act 183 = .ok (.ifCond .ne 8, 3) := by decide +kernel
theorem dL_act_186 : decode cL_act 186 = .ok (.bipush (-99), 2) := by decide +kernel
theorem dL_act_188 : decode cL_act 188 = .ok (.goto 11, 3) := by decide +kernel
theorem dL_act_191 : decode cL_act 191 = .ok (.aload_n 0, 1) := by decide +kernel
theorem dL_act_192 : decode cL_act 192 = .ok (.iload_n 3, 1) := by decide +kernel
theorem dL_act_193 : decode cL_act 193 = .ok (.iload 5, 2) := by decide +kernel
theorem dL_act_195 : decode cL_act 195 = .ok (.irem, 1) := by decide +kernel
theorem dL_act_196 : decode cL_act 196 = .ok (.invokestatic 129, 3) := by decide +kernel
theorem dL_act_199 : decode cL_act 199 = .ok (.ireturn, 1) := by decide +kernel
theorem dL_act_200 : decode cL_act 200 = .ok (.iload 5, 2) := by decide +kernel
theorem dL_act_202 : decode cL_act 202 = .ok (.ifCond .ne 8, 3) := by decide +kernel
theorem dL_act_205 : decode cL_act 205 = .ok (.bipush (-99), 2) := by decide +kernel
theorem dL_act_207 : decode cL_act 207 = .ok (.goto 16, 3) := by decide +kernel
theorem dL_act_210 : decode cL_act 210 = .ok (.aload_n 0, 1) := by decide +kernel
theorem dL_act_211 : decode cL_act 211 = .ok (.iload_n 3, 1) := by decide +kernel
theorem dL_act_212 : decode cL_act 212 = .ok (.iload 5, 2) := by decide +kernel
theorem dL_act_214 : decode cL_act 214 = .ok (.irem, 1) := by decide +kernel
theorem dL_act_215 : decode cL_act 215 = .ok (.iload 4, 2) := by decide +kernel
theorem dL_act_217 : decode cL_act 217 = .ok (.iload 5, 2) := by decide +kernel
theorem dL_act_219 : decode cL_act 219 = .ok (.irem, 1) := by decide +kernel
theorem dL_act_220 : decode cL_act 220 = .ok (.invokestatic 132, 3) := by decide +kernel
theorem dL_act_223 : decode cL_act 223 = .ok (.ireturn, 1) := by decide +kernel
theorem dL_act_224 : decode cL_act 224 = .ok (.aload_n 0, 1) := by decide +kernel
theorem dL_act_225 : decode cL_act 225 = .ok (.iload_n 3, 1) := by decide +kernel
theorem dL_act_226 : decode cL_act 226 = .ok (.aload_n 0, 1) := by decide +kernel
theorem dL_act_227 : decode cL_act 227 = .ok (.iconst 0, 1) := by decide +kernel
theorem dL_act_228 : decode cL_act 228 = .ok (.invokevirtual 94, 3) := by decide +kernel
theorem dL_act_231 : decode cL_act 231 = .ok (.irem, 1) := by decide +kernel
theorem dL_act_232 : decode cL_act 232 = .ok (.iload 4, 2) := by decide +kernel
theorem dL_act_234 : decode cL_act 234 = .ok (.iload 6, 2) := by decide +kernel
theorem dL_act_236 : decode cL_act 236 = .ok (.irem, 1) := by decide +kernel
theorem dL_act_237 : decode cL_act 237 = .ok (.iload_n 3, 1) := by decide +kernel
theorem dL_act_238 : decode cL_act 238 = .ok (.iconst 3, 1) := by decide +kernel
theorem dL_act_239 : decode cL_act 239 = .ok (.irem, 1) := by decide +kernel
theorem dL_act_240 : decode cL_act 240 = .ok (.ifCond .le 7, 3) := by decide +kernel
theorem dL_act_243 : decode cL_act 243 = .ok (.iconst 1, 1) := by decide +kernel
theorem dL_act_244 : decode cL_act 244 = .ok (.goto 4, 3) := by decide +kernel
theorem dL_act_247 : decode cL_act 247 = .ok (.iconst 0, 1) := by decide +kernel
theorem dL_act_248 : decode cL_act 248 = .ok (.invokestatic 136, 3) := by decide +kernel
theorem dL_act_251 : decode cL_act 251 = .ok (.ireturn, 1) := by decide +kernel
theorem dL_act_252 : decode cL_act 252 = .ok (.aload_n 0, 1) := by decide +kernel
theorem dL_act_253 : decode cL_act 253 = .ok (.iload_n 3, 1) := by decide +kernel
theorem dL_act_254 : decode cL_act 254 = .ok (.iconst 4, 1) := by decide +kernel
theorem dL_act_255 : decode cL_act 255 = .ok (.irem, 1) := by decide +kernel
theorem dL_act_256 : decode cL_act 256 = .ok (.invokestatic 140, 3) := by decide +kernel
theorem dL_act_259 : decode cL_act 259 = .ok (.ireturn, 1) := by decide +kernel
theorem dL_act_260 : decode cL_act 260 = .ok (.aload_n 0, 1) := by decide +kernel
theorem dL_act_261 : decode cL_act 261 = .ok (.invokestatic 143, 3) := by decide +kernel
theorem dL_act_264 : decode cL_act 264 = .ok (.ireturn, 1) := by decide +kernel
theorem dL_act_265 : decode cL_act 265 = .ok (.iload 6, 2) := by decide +kernel
theorem dL_act_267 : decode cL_act 267 = .ok (.iconst 3, 1) := by decide +kernel
theorem dL_act_268 : decode cL_act 268 = .ok (.if_icmp .lt 9, 3) := by decide +kernel
theorem dL_act_271 : decode cL_act 271 = .ok (.iload_n 3, 1) := by decide +kernel
theorem dL_act_272 : decode cL_act 272 = .ok (.iconst 3, 1) := by decide +kernel
theorem dL_act_273 : decode cL_act 273 = .ok (.irem, 1) := by decide +kernel
theorem dL_act_274 : decode cL_act 274 = .ok (.ifCond .le 8, 3) := by decide +kernel
theorem dL_act_277 : decode cL_act 277 = .ok (.bipush (-99), 2) := by decide +kernel
theorem dL_act_279 : decode cL_act 279 = .ok (.goto 28, 3) := by decide +kernel
theorem dL_act_282 : decode cL_act 282 = .ok (.aload_n 0, 1) := by decide +kernel
theorem dL_act_283 : decode cL_act 283 = .ok (.iconst 1, 1) := by decide +kernel
theorem dL_act_284 : decode cL_act 284 = .ok (.iload 4, 2) := by decide +kernel
theorem dL_act_286 : decode cL_act 286 = .ok (.iload 6, 2) := by decide +kernel
theorem dL_act_288 : decode cL_act 288 = .ok (.iconst 2, 1) := by decide +kernel
theorem dL_act_289 : decode cL_act 289 = .ok (.isub, 1) := by decide +kernel
theorem dL_act_290 : decode cL_act 290 = .ok (.irem, 1) := by decide +kernel
theorem dL_act_291 : decode cL_act 291 = .ok (.iadd, 1) := by decide +kernel
theorem dL_act_292 : decode cL_act 292 = .ok (.iload 4, 2) := by decide +kernel
theorem dL_act_294 : decode cL_act 294 = .ok (.iconst 2, 1) := by decide +kernel
theorem dL_act_295 : decode cL_act 295 = .ok (.irem, 1) := by decide +kernel
theorem dL_act_296 : decode cL_act 296 = .ok (.ifCond .ne 7, 3) := by decide +kernel
theorem dL_act_299 : decode cL_act 299 = .ok (.iconst 1, 1) := by decide +kernel
theorem dL_act_300 : decode cL_act 300 = .ok (.goto 4, 3) := by decide +kernel
theorem dL_act_303 : decode cL_act 303 = .ok (.iconst 0, 1) := by decide +kernel
theorem dL_act_304 : decode cL_act 304 = .ok (.invokestatic 147, 3) := by decide +kernel
theorem dL_act_307 : decode cL_act 307 = .ok (.ireturn, 1) := by decide +kernel
theorem dL_act_308 : decode cL_act 308 = .ok (.iload_n 3, 1) := by decide +kernel
theorem dL_act_309 : decode cL_act 309 = .ok (.iconst 2, 1) := by decide +kernel
theorem dL_act_310 : decode cL_act 310 = .ok (.irem, 1) := by decide +kernel
theorem dL_act_311 : decode cL_act 311 = .ok (.ifCond .ne 17, 3) := by decide +kernel
theorem dL_act_314 : decode cL_act 314 = .ok (.aload_n 0, 1) := by decide +kernel
theorem dL_act_315 : decode cL_act 315 = .ok (.iconst 1, 1) := by decide +kernel
theorem dL_act_316 : decode cL_act 316 = .ok (.iload 4, 2) := by decide +kernel
theorem dL_act_318 : decode cL_act 318 = .ok (.bipush 9, 2) := by decide +kernel
theorem dL_act_320 : decode cL_act 320 = .ok (.irem, 1) := by decide +kernel
theorem dL_act_321 : decode cL_act 321 = .ok (.iadd, 1) := by decide +kernel
theorem dL_act_322 : decode cL_act 322 = .ok (.invokevirtual 151, 3) := by decide +kernel
theorem dL_act_325 : decode cL_act 325 = .ok (.goto 5, 3) := by decide +kernel
theorem dL_act_328 : decode cL_act 328 = .ok (.bipush (-99), 2) := by decide +kernel
theorem dL_act_330 : decode cL_act 330 = .ok (.ireturn, 1) := by decide +kernel
theorem dL_act_331 : decode cL_act 331 = .ok (.aload_n 0, 1) := by decide +kernel
theorem dL_act_332 : decode cL_act 332 = .ok (.invokevirtual 154, 3) := by decide +kernel
theorem dL_act_335 : decode cL_act 335 = .ok (.ireturn, 1) := by decide +kernel
theorem dL_act_336 : decode cL_act 336 = .ok (.aload_n 0, 1) := by decide +kernel
theorem dL_act_337 : decode cL_act 337 = .ok (.iconst 1, 1) := by decide +kernel
theorem dL_act_338 : decode cL_act 338 = .ok (.iload_n 3, 1) := by decide +kernel
theorem dL_act_339 : decode cL_act 339 = .ok (.bipush 40, 2) := by decide +kernel
theorem dL_act_341 : decode cL_act 341 = .ok (.irem, 1) := by decide +kernel
theorem dL_act_342 : decode cL_act 342 = .ok (.iadd, 1) := by decide +kernel
theorem dL_act_343 : decode cL_act 343 = .ok (.iload 4, 2) := by decide +kernel
theorem dL_act_345 : decode cL_act 345 = .ok (.bipush 100, 2) := by decide +kernel
theorem dL_act_347 : decode cL_act 347 = .ok (.irem, 1) := by decide +kernel
theorem dL_act_348 : decode cL_act 348 = .ok (.invokevirtual 157, 3) := by decide +kernel
theorem dL_act_351 : decode cL_act 351 = .ok (.ireturn, 1) := by decide +kernel
theorem dL_act_352 : decode cL_act 352 = .ok (.aload_n 0, 1) := by decide +kernel
theorem dL_act_353 : decode cL_act 353 = .ok (.iload_n 3, 1) := by decide +kernel
theorem dL_act_354 : decode cL_act 354 = .ok (.aload_n 0, 1) := by decide +kernel
theorem dL_act_355 : decode cL_act 355 = .ok (.iconst 0, 1) := by decide +kernel
theorem dL_act_356 : decode cL_act 356 = .ok (.invokevirtual 94, 3) := by decide +kernel
theorem dL_act_359 : decode cL_act 359 = .ok (.irem, 1) := by decide +kernel
theorem dL_act_360 : decode cL_act 360 = .ok (.iload 4, 2) := by decide +kernel
theorem dL_act_362 : decode cL_act 362 = .ok (.iload 6, 2) := by decide +kernel
theorem dL_act_364 : decode cL_act 364 = .ok (.irem, 1) := by decide +kernel
theorem dL_act_365 : decode cL_act 365 = .ok (.iconst 1, 1) := by decide +kernel
theorem dL_act_366 : decode cL_act 366 = .ok (.invokestatic 136, 3) := by decide +kernel
theorem dL_act_369 : decode cL_act 369 = .ok (.ireturn, 1) := by decide +kernel
theorem dL_flaw_0 : decode cL_flaw 0 = .ok (.iload_n 1, 1) := by decide +kernel
theorem dL_flaw_1 : decode cL_flaw 1 = .ok (.ifCond .lt 39, 3) := by decide +kernel
theorem dL_flaw_4 : decode cL_flaw 4 = .ok (.iload_n 2, 1) := by decide +kernel
theorem dL_flaw_5 : decode cL_flaw 5 = .ok (.ifCond .lt 35, 3) := by decide +kernel
theorem dL_flaw_8 : decode cL_flaw 8 = .ok (.iload_n 1, 1) := by decide +kernel
theorem dL_flaw_9 : decode cL_flaw 9 = .ok (.aload_n 0, 1) := by decide +kernel
theorem dL_flaw_10 : decode cL_flaw 10 = .ok (.iconst 0, 1) := by decide +kernel
theorem dL_flaw_11 : decode cL_flaw 11 = .ok (.invokevirtual 94, 3) := by decide +kernel
theorem dL_flaw_14 : decode cL_flaw 14 = .ok (.if_icmp .ge 26, 3) := by decide +kernel
theorem dL_flaw_17 : decode cL_flaw 17 = .ok (.iload_n 2, 1) := by decide +kernel
theorem dL_flaw_18 : decode cL_flaw 18 = .ok (.aload_n 0, 1) := by decide +kernel
theorem dL_flaw_19 : decode cL_flaw 19 = .ok (.iconst 1, 1) := by decide +kernel
theorem dL_flaw_20 : decode cL_flaw 20 = .ok (.invokevirtual 94, 3) := by decide +kernel
theorem dL_flaw_23 : decode cL_flaw 23 = .ok (.if_icmp .ge 17, 3) := by decide +kernel
theorem dL_flaw_26 : decode cL_flaw 26 = .ok (.aload_n 0, 1) := by decide +kernel
theorem dL_flaw_27 : decode cL_flaw 27 = .ok (.iload_n 1, 1) := by decide +kernel
theorem dL_flaw_28 : decode cL_flaw 28 = .ok (.iload_n 2, 1) := by decide +kernel
theorem dL_flaw_29 : decode cL_flaw 29 = .ok (.invokevirtual 178, 3) := by decide +kernel
theorem dL_flaw_32 : decode cL_flaw 32 = .ok (.iconst (-1), 1) := by decide +kernel
theorem dL_flaw_33 : decode cL_flaw 33 = .ok (.if_icmp .ne 7, 3) := by decide +kernel
theorem dL_flaw_36 : decode cL_flaw 36 = .ok (.iconst 1, 1) := by decide +kernel
theorem dL_flaw_37 : decode cL_flaw 37 = .ok (.goto 4, 3) := by decide +kernel
theorem dL_flaw_40 : decode cL_flaw 40 = .ok (.iconst 0, 1) := by decide +kernel
theorem dL_flaw_41 : decode cL_flaw 41 = .ok (.ireturn, 1) := by decide +kernel
theorem dL_touched_0 : decode cL_touched 0 = .ok (.aload_n 0, 1) := by decide +kernel
theorem dL_touched_1 : decode cL_touched 1 = .ok (.iload_n 1, 1) := by decide +kernel
theorem dL_touched_2 : decode cL_touched 2 = .ok (.iconst 1, 1) := by decide +kernel
theorem dL_touched_3 : decode cL_touched 3 = .ok (.isub, 1) := by decide +kernel
theorem dL_touched_4 : decode cL_touched 4 = .ok (.iload_n 2, 1) := by decide +kernel
theorem dL_touched_5 : decode cL_touched 5 = .ok (.invokestatic 181, 3) := by decide +kernel
theorem dL_touched_8 : decode cL_touched 8 = .ok (.ifCond .ne 36, 3) := by decide +kernel
theorem dL_touched_11 : decode cL_touched 11 = .ok (.aload_n 0, 1) := by decide +kernel
theorem dL_touched_12 : decode cL_touched 12 = .ok (.iload_n 1, 1) := by decide +kernel
theorem dL_touched_13 : decode cL_touched 13 = .ok (.iconst 1, 1) := by decide +kernel
theorem dL_touched_14 : decode cL_touched 14 = .ok (.iadd, 1) := by decide +kernel
theorem dL_touched_15 : decode cL_touched 15 = .ok (.iload_n 2, 1) := by decide +kernel
theorem dL_touched_16 : decode cL_touched 16 = .ok (.invokestatic 181, 3) := by decide +kernel
theorem dL_touched_19 : decode cL_touched 19 = .ok (.ifCond .ne 25, 3) := by decide +kernel
theorem dL_touched_22 : decode cL_touched 22 = .ok (.aload_n 0, 1) := by decide +kernel
theorem dL_touched_23 : decode cL_touched 23 = .ok (.iload_n 1, 1) := by decide +kernel
theorem dL_touched_24 : decode cL_touched 24 = .ok (.iload_n 2, 1) := by decide +kernel
theorem dL_touched_25 : decode cL_touched 25 = .ok (.iconst 1, 1) := by decide +kernel
theorem dL_touched_26 : decode cL_touched 26 = .ok (.isub, 1) := by decide +kernel
theorem dL_touched_27 : decode cL_touched 27 = .ok (.invokestatic 181, 3) := by decide +kernel
theorem dL_touched_30 : decode cL_touched 30 = .ok (.ifCond .ne 14, 3) := by decide +kernel
theorem dL_touched_33 : decode cL_touched 33 = .ok (.aload_n 0, 1) := by decide +kernel
theorem dL_touched_34 : decode cL_touched 34 = .ok (.iload_n 1, 1) := by decide +kernel
theorem dL_touched_35 : decode cL_touched 35 = .ok (.iload_n 2, 1) := by decide +kernel
theorem dL_touched_36 : decode cL_touched 36 = .ok (.iconst 1, 1) := by decide +kernel
theorem dL_touched_37 : decode cL_touched 37 = .ok (.iadd, 1) := by decide +kernel
theorem dL_touched_38 : decode cL_touched 38 = .ok (.invokestatic 181, 3) := by decide +kernel
theorem dL_touched_41 : decode cL_touched 41 = .ok (.ifCond .eq 7, 3) := by decide +kernel
theorem dL_touched_44 : decode cL_touched 44 = .ok (.iconst 1, 1) := by decide +kernel
theorem dL_touched_45 : decode cL_touched 45 = .ok (.goto 4, 3) := by decide +kernel
theorem dL_touched_48 : decode cL_touched 48 = .ok (.iconst 0, 1) := by decide +kernel
theorem dL_touched_49 : decode cL_touched 49 = .ok (.ireturn, 1) := by decide +kernel
theorem dL_plain_0 : decode cL_plain 0 = .ok (.iload_n 0, 1) := by decide +kernel
theorem dL_plain_1 : decode cL_plain 1 = .ok (.bipush 97, 2) := by decide +kernel
theorem dL_plain_3 : decode cL_plain 3 = .ok (.if_icmp .lt 17, 3) := by decide +kernel
theorem dL_plain_6 : decode cL_plain 6 = .ok (.iconst 1, 1) := by decide +kernel
theorem dL_plain_7 : decode cL_plain 7 = .ok (.bipush 7, 2) := by decide +kernel
theorem dL_plain_9 : decode cL_plain 9 = .ok (.iload_n 0, 1) := by decide +kernel
theorem dL_plain_10 : decode cL_plain 10 = .ok (.bipush 97, 2) := by decide +kernel
theorem dL_plain_12 : decode cL_plain 12 = .ok (.isub, 1) := by decide +kernel
theorem dL_plain_13 : decode cL_plain 13 = .ok (.imul, 1) := by decide +kernel
theorem dL_plain_14 : decode cL_plain 14 = .ok (.iconst 5, 1) := by decide +kernel
theorem dL_plain_15 : decode cL_plain 15 = .ok (.irem, 1) := by decide +kernel
theorem dL_plain_16 : decode cL_plain 16 = .ok (.iadd, 1) := by decide +kernel
theorem dL_plain_17 : decode cL_plain 17 = .ok (.goto 11, 3) := by decide +kernel
theorem dL_plain_20 : decode cL_plain 20 = .ok (.iconst 2, 1) := by decide +kernel
theorem dL_plain_21 : decode cL_plain 21 = .ok (.iload_n 0, 1) := by decide +kernel
theorem dL_plain_22 : decode cL_plain 22 = .ok (.bipush 48, 2) := by decide +kernel
theorem dL_plain_24 : decode cL_plain 24 = .ok (.isub, 1) := by decide +kernel
theorem dL_plain_25 : decode cL_plain 25 = .ok (.iconst 3, 1) := by decide +kernel
theorem dL_plain_26 : decode cL_plain 26 = .ok (.irem, 1) := by decide +kernel
theorem dL_plain_27 : decode cL_plain 27 = .ok (.iadd, 1) := by decide +kernel
theorem dL_plain_28 : decode cL_plain 28 = .ok (.ireturn, 1) := by decide +kernel
theorem dL_stands_0 : decode cL_stands 0 = .ok (.aload_n 0, 1) := by decide +kernel
theorem dL_stands_1 : decode cL_stands 1 = .ok (.bipush 6, 2) := by decide +kernel
theorem dL_stands_3 : decode cL_stands 3 = .ok (.invokevirtual 94, 3) := by decide +kernel
theorem dL_stands_6 : decode cL_stands 6 = .ok (.istore_n 1, 1) := by decide +kernel
theorem dL_stands_7 : decode cL_stands 7 = .ok (.iconst 0, 1) := by decide +kernel
theorem dL_stands_8 : decode cL_stands 8 = .ok (.istore_n 2, 1) := by decide +kernel
theorem dL_stands_9 : decode cL_stands 9 = .ok (.iconst 0, 1) := by decide +kernel
theorem dL_stands_10 : decode cL_stands 10 = .ok (.istore_n 3, 1) := by decide +kernel
theorem dL_stands_11 : decode cL_stands 11 = .ok (.iconst 0, 1) := by decide +kernel
theorem dL_stands_12 : decode cL_stands 12 = .ok (.istore 4, 2) := by decide +kernel
theorem dL_stands_14 : decode cL_stands 14 = .ok (.iconst 0, 1) := by decide +kernel
theorem dL_stands_15 : decode cL_stands 15 = .ok (.istore 5, 2) := by decide +kernel
theorem dL_stands_17 : decode cL_stands 17 = .ok (.aload_n 0, 1) := by decide +kernel
theorem dL_stands_18 : decode cL_stands 18 = .ok (.bipush 8, 2) := by decide +kernel
theorem dL_stands_20 : decode cL_stands 20 = .ok (.invokevirtual 94, 3) := by decide +kernel
theorem dL_stands_23 : decode cL_stands 23 = .ok (.istore 6, 2) := by decide +kernel
theorem dL_stands_25 : decode cL_stands 25 = .ok (.aload_n 0, 1) := by decide +kernel
theorem dL_stands_26 : decode cL_stands 26 = .ok (.invokevirtual 185, 3) := by decide +kernel
theorem dL_stands_29 : decode cL_stands 29 = .ok (.iconst (-1), 1) := by decide +kernel
theorem dL_stands_30 : decode cL_stands 30 = .ok (.if_icmp .ne 7, 3) := by decide +kernel
theorem dL_stands_33 : decode cL_stands 33 = .ok (.iconst 1, 1) := by decide +kernel
theorem dL_stands_34 : decode cL_stands 34 = .ok (.goto 4, 3) := by decide +kernel
theorem dL_stands_37 : decode cL_stands 37 = .ok (.iconst 0, 1) := by decide +kernel
theorem dL_stands_38 : decode cL_stands 38 = .ok (.iload_n 1, 1) := by decide +kernel
theorem dL_stands_39 : decode cL_stands 39 = .ok (.aload_n 0, 1) := by decide +kernel
theorem dL_stands_40 : decode cL_stands 40 = .ok (.iconst 5, 1) := by decide +kernel
theorem dL_stands_41 : decode cL_stands 41 = .ok (.invokevirtual 94, 3) := by decide +kernel
theorem dL_stands_44 : decode cL_stands 44 = .ok (.if_icmp .ne 7, 3) := by decide +kernel
theorem dL_stands_47 : decode cL_stands 47 = .ok (.iconst 1, 1) := by decide +kernel
theorem dL_stands_48 : decode cL_stands 48 = .ok (.goto 4, 3) := by decide +kernel
theorem dL_stands_51 : decode cL_stands 51 = .ok (.iconst 0, 1) := by decide +kernel
theorem dL_stands_52 : decode cL_stands 52 = .ok (.if_icmp .ne 18, 3) := by decide +kernel
theorem dL_stands_55 : decode cL_stands 55 = .ok (.aload_n 0, 1) := by decide +kernel
theorem dL_stands_56 : decode cL_stands 56 = .ok (.invokevirtual 185, 3) := by decide +kernel
theorem dL_stands_59 : decode cL_stands 59 = .ok (.ifCond .lt 13, 3) := by decide +kernel
theorem dL_stands_62 : decode cL_stands 62 = .ok (.aload_n 0, 1) := by decide +kernel
theorem dL_stands_63 : decode cL_stands 63 = .ok (.invokevirtual 185, 3) := by decide +kernel
theorem dL_stands_66 : decode cL_stands 66 = .ok (.iload_n 1, 1) := by decide +kernel
theorem dL_stands_67 : decode cL_stands 67 = .ok (.if_icmp .eq 5, 3) := by decide +kernel
theorem dL_stands_70 : decode cL_stands 70 = .ok (.iconst 0, 1) := by decide +kernel
theorem dL_stands_71 : decode cL_stands 71 = .ok (.ireturn, 1) := by decide +kernel
theorem dL_stands_72 : decode cL_stands 72 = .ok (.iconst 0, 1) := by decide +kernel
theorem dL_stands_73 : decode cL_stands 73 = .ok (.istore 7, 2) := by decide +kernel
theorem dL_stands_75 : decode cL_stands 75 = .ok (.iload 7, 2) := by decide +kernel
theorem dL_stands_77 : decode cL_stands 77 = .ok (.aload_n 0, 1) := by decide +kernel
theorem dL_stands_78 : decode cL_stands 78 = .ok (.iconst 5, 1) := by decide +kernel
theorem dL_stands_79 : decode cL_stands 79 = .ok (.invokevirtual 94, 3) := by decide +kernel
theorem dL_stands_82 : decode cL_stands 82 = .ok (.if_icmp .ge 419, 3) := by decide +kernel
theorem dL_stands_85 : decode cL_stands 85 = .ok (.aload_n 0, 1) := by decide +kernel
theorem dL_stands_86 : decode cL_stands 86 = .ok (.iload 7, 2) := by decide +kernel
theorem dL_stands_88 : decode cL_stands 88 = .ok (.iconst 3, 1) := by decide +kernel
theorem dL_stands_89 : decode cL_stands 89 = .ok (.invokevirtual 171, 3) := by decide +kernel
theorem dL_stands_92 : decode cL_stands 92 = .ok (.istore 8, 2) := by decide +kernel
theorem dL_stands_94 : decode cL_stands 94 = .ok (.aload_n 0, 1) := by decide +kernel
theorem dL_stands_95 : decode cL_stands 95 = .ok (.iload 7, 2) := by decide +kernel
theorem dL_stands_97 : decode cL_stands 97 = .ok (.iconst 2, 1) := by decide +kernel
theorem dL_stands_98 : decode cL_stands 98 = .ok (.invokevirtual 171, 3) := by decide +kernel
theorem dL_stands_101 : decode cL_stands 101 = .ok (.istore 9, 2) := by decide +kernel
theorem dL_stands_103 : decode cL_stands 103 = .ok (.iload 8, 2) := by decide +kernel
theorem dL_stands_105 : decode cL_stands 105 = .ok (.ifCond .lt 7, 3) := by decide +kernel
theorem dL_stands_108 : decode cL_stands 108 = .ok (.iconst 1, 1) := by decide +kernel
theorem dL_stands_109 : decode cL_stands 109 = .ok (.goto 4, 3) := by decide +kernel
theorem dL_stands_112 : decode cL_stands 112 = .ok (.iconst 0, 1) := by decide +kernel
theorem dL_stands_113 : decode cL_stands 113 = .ok (.iload 7, 2) := by decide +kernel
theorem dL_stands_115 : decode cL_stands 115 = .ok (.iload_n 1, 1) := by decide +kernel
theorem dL_stands_116 : decode cL_stands 116 = .ok (.if_icmp .ge 7, 3) := by decide +kernel
theorem dL_stands_119 : decode cL_stands 119 = .ok (.iconst 1, 1) := by decide +kernel
theorem dL_stands_120 : decode cL_stands 120 = .ok (.goto 4, 3) := by decide +kernel
theorem dL_stands_123 : decode cL_stands 123 = .ok (.iconst 0, 1) := by decide +kernel
theorem dL_stands_124 : decode cL_stands 124 = .ok (.if_icmp .ne 27, 3) := by decide +kernel
theorem dL_stands_127 : decode cL_stands 127 = .ok (.iload 9, 2) := by decide +kernel
theorem dL_stands_129 : decode cL_stands 129 = .ok (.ifCond .lt 7, 3) := by decide +kernel
theorem dL_stands_132 : decode cL_stands 132 = .ok (.iconst 1, 1) := by decide +kernel
theorem dL_stands_133 : decode cL_stands 133 = .ok (.goto 4, 3) := by decide +kernel
theorem dL_stands_136 : decode cL_stands 136 = .ok (.iconst 0, 1) := by decide +kernel
theorem dL_stands_137 : decode cL_stands 137 = .ok (.iload 7, 2) := by decide +kernel
theorem dL_stands_139 : decode cL_stands 139 = .ok (.iload_n 1, 1) := by decide +kernel
theorem dL_stands_140 : decode cL_stands 140 = .ok (.if_icmp .ge 7, 3) := by decide +kernel
theorem dL_stands_143 : decode cL_stands 143 = .ok (.iconst 1, 1) := by decide +kernel
theorem dL_stands_144 : decode cL_stands 144 = .ok (.goto 4, 3) := by decide +kernel
theorem dL_stands_147 : decode cL_stands 147 = .ok (.iconst 0, 1) := by decide +kernel
theorem dL_stands_148 : decode cL_stands 148 = .ok (.if_icmp .eq 5, 3) := by decide +kernel
theorem dL_stands_151 : decode cL_stands 151 = .ok (.iconst 0, 1) := by decide +kernel
theorem dL_stands_152 : decode cL_stands 152 = .ok (.ireturn, 1) := by decide +kernel
theorem dL_stands_153 : decode cL_stands 153 = .ok (.iload 7, 2) := by decide +kernel
theorem dL_stands_155 : decode cL_stands 155 = .ok (.iload_n 1, 1) := by decide +kernel
theorem dL_stands_156 : decode cL_stands 156 = .ok (.if_icmp .lt 25, 3) := by decide +kernel
theorem dL_stands_159 : decode cL_stands 159 = .ok (.aload_n 0, 1) := by decide +kernel
theorem dL_stands_160 : decode cL_stands 160 = .ok (.iload 7, 2) := by decide +kernel
theorem dL_stands_162 : decode cL_stands 162 = .ok (.iconst 4, 1) := by decide +kernel
theorem dL_stands_163 : decode cL_stands 163 = .ok (.invokevirtual 171, 3) := by decide +kernel
theorem dL_stands_166 : decode cL_stands 166 = .ok (.ifCond .ne 13, 3) := by decide +kernel
theorem dL_stands_169 : decode cL_stands 169 = .ok (.aload_n 0, 1) := by decide +kernel
theorem dL_stands_170 : decode cL_stands 170 = .ok (.iload 7, 2) := by decide +kernel
theorem dL_stands_172 : decode cL_stands 172 = .ok (.iconst 5, 1) := by decide +kernel
theorem dL_stands_173 : decode cL_stands 173 = .ok (.invokevirtual 171, 3) := by decide +kernel
theorem dL_stands_176 : decode cL_stands 176 = .ok (.ifCond .eq 319, 3) := by decide +kernel
theorem dL_stands_179 : decode cL_stands 179 = .ok (.iconst 0, 1) := by decide +kernel
theorem dL_stands_180 : decode cL_stands 180 = .ok (.ireturn, 1) := by decide +kernel
theorem dL_stands_181 : decode cL_stands 181 = .ok (.iconst 0, 1) := by decide +kernel
theorem dL_stands_182 : decode cL_stands 182 = .ok (.istore 10, 2) := by decide +kernel
theorem dL_stands_184 : decode cL_stands 184 = .ok (.iconst 0, 1) := by decide +kernel
theorem dL_stands_185 : decode cL_stands 185 = .ok (.istore 11, 2) := by decide +kernel
theorem dL_stands_187 : decode cL_stands 187 = .ok (.iconst 0, 1) := by decide +kernel
theorem dL_stands_188 : decode cL_stands 188 = .ok (.istore 12, 2) := by decide +kernel
theorem dL_stands_190 : decode cL_stands 190 = .ok (.iload 12, 2) := by decide +kernel
theorem dL_stands_192 : decode cL_stands 192 = .ok (.aload_n 0, 1) := by decide +kernel
theorem dL_stands_193 : decode cL_stands 193 = .ok (.iload 7, 2) := by decide +kernel
theorem dL_stands_195 : decode cL_stands 195 = .ok (.iconst 1, 1) := by decide +kernel
theorem dL_stands_196 : decode cL_stands 196 = .ok (.invokevirtual 171, 3) := by decide +kernel
theorem dL_stands_199 : decode cL_stands 199 = .ok (.if_icmp .ge 140, 3) := by decide +kernel
theorem dL_stands_202 : decode cL_stands 202 = .ok (.aload_n 0, 1) := by decide +kernel
theorem dL_stands_203 : decode cL_stands 203 = .ok (.iload 7, 2) := by decide +kernel
theorem dL_stands_205 : decode cL_stands 205 = .ok (.iload 12, 2) := by decide +kernel
theorem dL_stands_207 : decode cL_stands 207 = .ok (.invokevirtual 173, 3) := by decide +kernel
theorem dL_stands_210 : decode cL_stands 210 = .ok (.istore 13, 2) := by decide +kernel
theorem dL_stands_212 : decode cL_stands 212 = .ok (.aload_n 0, 1) := by decide +kernel
theorem dL_stands_213 : decode cL_stands 213 = .ok (.iload 8, 2) := by decide +kernel
theorem dL_stands_215 : decode cL_stands 215 = .ok (.iload 12, 2) := by decide +kernel
theorem dL_stands_217 : decode cL_stands 217 = .ok (.iadd, 1) := by decide +kernel
theorem dL_stands_218 : decode cL_stands 218 = .ok (.iload 9, 2) := by decide +kernel
theorem dL_stands_220 : decode cL_stands 220 = .ok (.invokevirtual 178, 3) := by decide +kernel
theorem dL_stands_223 : decode cL_stands 223 = .ok (.iload 13, 2) := by decide +kernel
theorem dL_stands_225 : decode cL_stands 225 = .ok (.if_icmp .ne 19, 3) := by decide +kernel
theorem dL_stands_228 : decode cL_stands 228 = .ok (.aload_n 0, 1) := by decide +kernel
theorem dL_stands_229 : decode cL_stands 229 = .ok (.iload 8, 2) := by decide +kernel
theorem dL_stands_231 : decode cL_stands 231 = .ok (.iload 12, 2) := by decide +kernel
theorem dL_stands_233 : decode cL_stands 233 = .ok (.iadd, 1) := by decide +kernel
theorem dL_stands_234 : decode cL_stands 234 = .ok (.iload 9, 2) := by decide +kernel
theorem dL_stands_236 : decode cL_stands 236 = .ok (.invokevirtual 188, 3) := by decide +kernel
theorem dL_stands_239 : decode cL_stands 239 = .ok (.iload 7, 2) := by decide +kernel
theorem dL_stands_241 : decode cL_stands 241 = .ok (.if_icmp .eq 5, 3) := by decide +kernel
theorem dL_stands_244 : decode cL_stands 244 = .ok (.iconst 0, 1) := by decide +kernel
theorem dL_stands_245 : decode cL_stands 245 = .ok (.ireturn, 1) := by decide +kernel
theorem dL_stands_246 : decode cL_stands 246 = .ok (.aload_n 0, 1) := by decide +kernel
theorem dL_stands_247 : decode cL_stands 247 = .ok (.iload 8, 2) := by decide +kernel
theorem dL_stands_249 : decode cL_stands 249 = .ok (.iload 12, 2) := by decide +kernel
theorem dL_stands_251 : decode cL_stands 251 = .ok (.iadd, 1) := by decide +kernel
theorem dL_stands_252 : decode cL_stands 252 = .ok (.iload 9, 2) := by decide +kernel
theorem dL_stands_254 : decode cL_stands 254 = .ok (.invokestatic 191, 3) := by decide +kernel
theorem dL_stands_257 : decode cL_stands 257 = .ok (.ifCond .eq 13, 3) := by decide +kernel
theorem dL_stands_260 : decode cL_stands 260 = .ok (.iconst 2, 1) := by decide +kernel
theorem dL_stands_261 : decode cL_stands 261 = .ok (.iload 13, 2) := by decide +kernel
theorem dL_stands_263 : decode cL_stands 263 = .ok (.invokestatic 194, 3) := by decide +kernel
theorem dL_stands_266 : decode cL_stands 266 = .ok (.imul, 1) := by decide +kernel
theorem dL_stands_267 : decode cL_stands 267 = .ok (.goto 8, 3) := by decide +kernel
theorem dL_stands_270 : decode cL_stands 270 = .ok (.iload 13, 2) := by decide +kernel
theorem dL_stands_272 : decode cL_stands 272 = .ok (.invokestatic 194, 3) := by decide +kernel
theorem dL_stands_275 : decode cL_stands 275 = .ok (.istore 14, 2) := by decide +kernel
theorem dL_stands_277 : decode cL_stands 277 = .ok (.iload 10, 2) := by decide +kernel
theorem dL_stands_279 : decode cL_stands 279 = .ok (.iload 14, 2) := by decide +kernel
theorem dL_stands_281 : decode cL_stands 281 = .ok (.iadd, 1) := by decide +kernel
theorem dL_stands_282 : decode cL_stands 282 = .ok (.istore 10, 2) := by decide +kernel
theorem dL_stands_284 : decode cL_stands 284 = .ok (.iload 5, 2) := by decide +kernel
theorem dL_stands_286 : decode cL_stands 286 = .ok (.iload 14, 2) := by decide +kernel
theorem dL_stands_288 : decode cL_stands 288 = .ok (.iload 13, 2) := by decide +kernel
theorem dL_stands_290 : decode cL_stands 290 = .ok (.invokestatic 194, 3) := by decide +kernel
theorem dL_stands_293 : decode cL_stands 293 = .ok (.isub, 1) := by decide +kernel
theorem dL_stands_294 : decode cL_stands 294 = .ok (.iadd, 1) := by decide +kernel
theorem dL_stands_295 : decode cL_stands 295 = .ok (.istore 5, 2) := by decide +kernel
theorem dL_stands_297 : decode cL_stands 297 = .ok (.iload 11, 2) := by decide +kernel
theorem dL_stands_299 : decode cL_stands 299 = .ok (.iload_n 2, 1) := by decide +kernel
theorem dL_stands_300 : decode cL_stands 300 = .ok (.iload 6, 2) := by decide +kernel
theorem dL_stands_302 : decode cL_stands 302 = .ok (.if_icmp .ge 7, 3) := by decide +kernel
theorem dL_stands_305 : decode cL_stands 305 = .ok (.iconst 1, 1) := by decide +kernel
theorem dL_stands_306 : decode cL_stands 306 = .ok (.goto 4, 3) := by decide +kernel
theorem dL_stands_309 : decode cL_stands 309 = .ok (.iconst 0, 1) := by decide +kernel
theorem dL_stands_310 : decode cL_stands 310 = .ok (.iadd, 1) := by decide +kernel
theorem dL_stands_311 : decode cL_stands 311 = .ok (.istore 11, 2) := by decide +kernel
theorem dL_stands_313 : decode cL_stands 313 = .ok (.iload 4, 2) := by decide +kernel
theorem dL_stands_315 : decode cL_stands 315 = .ok (.iload_n 2, 1) := by decide +kernel
theorem dL_stands_316 : decode cL_stands 316 = .ok (.iload 6, 2) := by decide +kernel
theorem dL_stands_318 : decode cL_stands 318 = .ok (.if_icmp .ge 7, 3) := by decide +kernel
theorem dL_stands_321 : decode cL_stands 321 = .ok (.iconst 0, 1) := by decide +kernel
theorem dL_stands_322 : decode cL_stands 322 = .ok (.goto 5, 3) := by decide +kernel
theorem dL_stands_325 : decode cL_stands 325 = .ok (.iload 14, 2) := by decide +kernel
theorem dL_stands_327 : decode cL_stands 327 = .ok (.iadd, 1) := by decide +kernel
theorem dL_stands_328 : decode cL_stands 328 = .ok (.istore 4, 2) := by decide +kernel
theorem dL_stands_330 : decode cL_stands 330 = .ok (.iinc 2 1, 3) := by decide +kernel
theorem dL_stands_333 : decode cL_stands 333 = .ok (.iinc 12 1, 3) := by decide +kernel
theorem dL_stands_336 : decode cL_stands 336 = .ok (.goto (-146), 3) := by decide +kernel
theorem dL_stands_339 : decode cL_stands 339 = .ok (.iload_n 3, 1) := by decide +kernel
theorem dL_stands_340 : decode cL_stands 340 = .ok (.iload 10, 2) := by decide +kernel
theorem dL_stands_342 : decode cL_stands 342 = .ok (.iadd, 1) := by decide +kernel
theorem dL_stands_343 : decode cL_stands 343 = .ok (.istore_n 3, 1) := by decide +kernel
theorem dL_stands_344 : decode cL_stands 344 = .ok (.aload_n 0, 1) := by decide +kernel
theorem dL_stands_345 : decode cL_stands 345 = .ok (.iload 7, 2) := by decide +kernel
theorem dL_stands_347 : decode cL_stands 347 = .ok (.iconst 4, 1) := by decide +kernel
theorem dL_stands_348 : decode cL_stands 348 = .ok (.invokevirtual 171, 3) := by decide +kernel
theorem dL_stands_351 : decode cL_stands 351 = .ok (.iload 10, 2) := by decide +kernel
theorem dL_stands_353 : decode cL_stands 353 = .ok (.if_icmp .ne 15, 3) := by decide +kernel
theorem dL_stands_356 : decode cL_stands 356 = .ok (.aload_n 0, 1) := by decide +kernel
theorem dL_stands_357 : decode cL_stands 357 = .ok (.iload 7, 2) := by decide +kernel
theorem dL_stands_359 : decode cL_stands 359 = .ok (.iconst 5, 1) := by decide +kernel
theorem dL_stands_360 : decode cL_stands 360 = .ok (.invokevirtual 171, 3) := by decide +kernel
theorem dL_stands_363 : decode cL_stands 363 = .ok (.iload 11, 2) := by decide +kernel
theorem dL_stands_365 : decode cL_stands 365 = .ok (.if_icmp .eq 5, 3) := by decide +kernel
theorem dL_stands_368 : decode cL_stands 368 = .ok (.iconst 0, 1) := by decide +kernel
theorem dL_stands_369 : decode cL_stands 369 = .ok (.ireturn, 1) := by decide +kernel
theorem dL_stands_370 : decode cL_stands 370 = .ok (.iload 7, 2) := by decide +kernel
theorem dL_stands_372 : decode cL_stands 372 = .ok (.ifCond .le 26, 3) := by decide +kernel
theorem dL_stands_375 : decode cL_stands 375 = .ok (.aload_n 0, 1) := by decide +kernel
theorem dL_stands_376 : decode cL_stands 376 = .ok (.iload 7, 2) := by decide +kernel
theorem dL_stands_378 : decode cL_stands 378 = .ok (.iconst 1, 1) := by decide +kernel
theorem dL_stands_379 : decode cL_stands 379 = .ok (.isub, 1) := by decide +kernel
theorem dL_stands_380 : decode cL_stands 380 = .ok (.iconst 0, 1) := by decide +kernel
theorem dL_stands_381 : decode cL_stands 381 = .ok (.invokevirtual 171, 3) := by decide +kernel
theorem dL_stands_384 : decode cL_stands 384 = .ok (.aload_n 0, 1) := by decide +kernel
theorem dL_stands_385 : decode cL_stands 385 = .ok (.iload 7, 2) := by decide +kernel
theorem dL_stands_387 : decode cL_stands 387 = .ok (.iconst 0, 1) := by decide +kernel
theorem dL_stands_388 : decode cL_stands 388 = .ok (.invokevirtual 171, 3) := by decide +kernel
theorem dL_stands_391 : decode cL_stands 391 = .ok (.if_icmp .ne 7, 3) := by decide +kernel
theorem dL_stands_394 : decode cL_stands 394 = .ok (.iconst 1, 1) := by decide +kernel
theorem dL_stands_395 : decode cL_stands 395 = .ok (.goto 4, 3) := by decide +kernel
theorem dL_stands_398 : decode cL_stands 398 = .ok (.iconst 0, 1) := by decide +kernel
theorem dL_stands_399 : decode cL_stands 399 = .ok (.istore 12, 2) := by decide +kernel
theorem dL_stands_401 : decode cL_stands 401 = .ok (.iload 7, 2) := by decide +kernel
theorem dL_stands_403 : decode cL_stands 403 = .ok (.ifCond .le 15, 3) := by decide +kernel
theorem dL_stands_406 : decode cL_stands 406 = .ok (.aload_n 0, 1) := by decide +kernel
theorem dL_stands_407 : decode cL_stands 407 = .ok (.iload 7, 2) := by decide +kernel
theorem dL_stands_409 : decode cL_stands 409 = .ok (.iconst 1, 1) := by decide +kernel
theorem dL_stands_410 : decode cL_stands 410 = .ok (.isub, 1) := by decide +kernel
theorem dL_stands_411 : decode cL_stands 411 = .ok (.iconst 2, 1) := by decide +kernel
theorem dL_stands_412 : decode cL_stands 412 = .ok (.invokevirtual 171, 3) := by decide +kernel
theorem dL_stands_415 : decode cL_stands 415 = .ok (.goto 4, 3) := by decide +kernel
theorem dL_stands_418 : decode cL_stands 418 = .ok (.iconst 0, 1) := by decide +kernel
theorem dL_stands_419 : decode cL_stands 419 = .ok (.istore 13, 2) := by decide +kernel
theorem dL_stands_421 : decode cL_stands 421 = .ok (.iload 12, 2) := by decide +kernel
theorem dL_stands_423 : decode cL_stands 423 = .ok (.ifCond .eq 45, 3) := by decide +kernel
theorem dL_stands_426 : decode cL_stands 426 = .ok (.iload 9, 2) := by decide +kernel
theorem dL_stands_428 : decode cL_stands 428 = .ok (.iload 13, 2) := by decide +kernel
theorem dL_stands_430 : decode cL_stands 430 = .ok (.if_icmp .lt 36, 3) := by decide +kernel
theorem dL_stands_433 : decode cL_stands 433 = .ok (.iload 9, 2) := by decide +kernel
theorem dL_stands_435 : decode cL_stands 435 = .ok (.iload 13, 2) := by decide +kernel
theorem dL_stands_437 : decode cL_stands 437 = .ok (.if_icmp .ne 31, 3) := by decide +kernel
theorem dL_stands_440 : decode cL_stands 440 = .ok (.iload 8, 2) := by decide +kernel
theorem dL_stands_442 : decode cL_stands 442 = .ok (.aload_n 0, 1) := by decide +kernel
theorem dL_stands_443 : decode cL_stands 443 = .ok (.iload 7, 2) := by decide +kernel
theorem dL_stands_445 : decode cL_stands 445 = .ok (.iconst 1, 1) := by decide +kernel
theorem dL_stands_446 : decode cL_stands 446 = .ok (.isub, 1) := by decide +kernel
theorem dL_stands_447 : decode cL_stands 447 = .ok (.iconst 3, 1) := by decide +kernel
theorem dL_stands_448 : decode cL_stands 448 = .ok (.invokevirtual 171, 3) := by decide +kernel
theorem dL_stands_451 : decode cL_stands 451 = .ok (.aload_n 0, 1) := by decide +kernel
theorem dL_stands_452 : decode cL_stands 452 = .ok (.iload 7, 2) := by decide +kernel
theorem dL_stands_454 : decode cL_stands 454 = .ok (.iconst 1, 1) := by decide +kernel
theorem dL_stands_455 : decode cL_stands 455 = .ok (.isub, 1) := by decide +kernel
theorem dL_stands_456 : decode cL_stands 456 = .ok (.iconst 1, 1) := by decide +kernel
theorem dL_stands_457 : decode cL_stands 457 = .ok (.invokevirtual 171, 3) := by decide +kernel
theorem dL_stands_460 : decode cL_stands 460 = .ok (.iadd, 1) := by decide +kernel
theorem dL_stands_461 : decode cL_stands 461 = .ok (.iconst 1, 1) := by decide +kernel
theorem dL_stands_462 : decode cL_stands 462 = .ok (.iadd, 1) := by decide +kernel
theorem dL_stands_463 : decode cL_stands 463 = .ok (.if_icmp .ge 5, 3) := by decide +kernel
theorem dL_stands_466 : decode cL_stands 466 = .ok (.iconst 0, 1) := by decide +kernel
theorem dL_stands_467 : decode cL_stands 467 = .ok (.ireturn, 1) := by decide +kernel
theorem dL_stands_468 : decode cL_stands 468 = .ok (.iload 7, 2) := by decide +kernel
theorem dL_stands_470 : decode cL_stands 470 = .ok (.ifCond .le 25, 3) := by decide +kernel
theorem dL_stands_473 : decode cL_stands 473 = .ok (.iload 12, 2) := by decide +kernel
theorem dL_stands_475 : decode cL_stands 475 = .ok (.ifCond .ne 20, 3) := by decide +kernel
theorem dL_stands_478 : decode cL_stands 478 = .ok (.iload 9, 2) := by decide +kernel
theorem dL_stands_480 : decode cL_stands 480 = .ok (.iload 13, 2) := by decide +kernel
theorem dL_stands_482 : decode cL_stands 482 = .ok (.aload_n 0, 1) := by decide +kernel
theorem dL_stands_483 : decode cL_stands 483 = .ok (.iconst 3, 1) := by decide +kernel
theorem dL_stands_484 : decode cL_stands 484 = .ok (.invokevirtual 94, 3) := by decide +kernel
theorem dL_stands_487 : decode cL_stands 487 = .ok (.iadd, 1) := by decide +kernel
theorem dL_stands_488 : decode cL_stands 488 = .ok (.iconst 1, 1) := by decide +kernel
theorem dL_stands_489 : decode cL_stands 489 = .ok (.iadd, 1) := by decide +kernel
theorem dL_stands_490 : decode cL_stands 490 = .ok (.if_icmp .ge 5, 3) := by decide +kernel
theorem dL_stands_493 : decode cL_stands 493 = .ok (.iconst 0, 1) := by decide +kernel
theorem dL_stands_494 : decode cL_stands 494 = .ok (.ireturn, 1) := by decide +kernel
theorem dL_stands_495 : decode cL_stands 495 = .ok (.iinc 7 1, 3) := by decide +kernel
theorem dL_stands_498 : decode cL_stands 498 = .ok (.goto (-423), 3) := by decide +kernel
theorem dL_stands_501 : decode cL_stands 501 = .ok (.iconst 0, 1) := by decide +kernel
theorem dL_stands_502 : decode cL_stands 502 = .ok (.istore 7, 2) := by decide +kernel
theorem dL_stands_504 : decode cL_stands 504 = .ok (.iconst 0, 1) := by decide +kernel
theorem dL_stands_505 : decode cL_stands 505 = .ok (.istore 8, 2) := by decide +kernel
theorem dL_stands_507 : decode cL_stands 507 = .ok (.iconst 0, 1) := by decide +kernel
theorem dL_stands_508 : decode cL_stands 508 = .ok (.istore 9, 2) := by decide +kernel
theorem dL_stands_510 : decode cL_stands 510 = .ok (.iload 9, 2) := by decide +kernel
theorem dL_stands_512 : decode cL_stands 512 = .ok (.aload_n 0, 1) := by decide +kernel
theorem dL_stands_513 : decode cL_stands 513 = .ok (.iconst 1, 1) := by decide +kernel
theorem dL_stands_514 : decode cL_stands 514 = .ok (.invokevirtual 94, 3) := by decide +kernel
theorem dL_stands_517 : decode cL_stands 517 = .ok (.if_icmp .ge 108, 3) := by decide +kernel
theorem dL_stands_520 : decode cL_stands 520 = .ok (.iconst 0, 1) := by decide +kernel
theorem dL_stands_521 : decode cL_stands 521 = .ok (.istore 10, 2) := by decide +kernel
theorem dL_stands_523 : decode cL_stands 523 = .ok (.iconst 0, 1) := by decide +kernel
theorem dL_stands_524 : decode cL_stands 524 = .ok (.istore 11, 2) := by decide +kernel
theorem dL_stands_526 : decode cL_stands 526 = .ok (.iload 11, 2) := by decide +kernel
theorem dL_stands_528 : decode cL_stands 528 = .ok (.aload_n 0, 1) := by decide +kernel
theorem dL_stands_529 : decode cL_stands 529 = .ok (.iconst 0, 1) := by decide +kernel
theorem dL_stands_530 : decode cL_stands 530 = .ok (.invokevirtual 94, 3) := by decide +kernel
theorem dL_stands_533 : decode cL_stands 533 = .ok (.if_icmp .ge 73, 3) := by decide +kernel
theorem dL_stands_536 : decode cL_stands 536 = .ok (.iload 7, 2) := by decide +kernel
theorem dL_stands_538 : decode cL_stands 538 = .ok (.aload_n 0, 1) := by decide +kernel
theorem dL_stands_539 : decode cL_stands 539 = .ok (.iload 11, 2) := by decide +kernel
theorem dL_stands_541 : decode cL_stands 541 = .ok (.iload 9, 2) := by decide +kernel
theorem dL_stands_543 : decode cL_stands 543 = .ok (.invokevirtual 178, 3) := by decide +kernel
theorem dL_stands_546 : decode cL_stands 546 = .ok (.ifCond .le 7, 3) := by decide +kernel
theorem dL_stands_549 : decode cL_stands 549 = .ok (.iconst 1, 1) := by decide +kernel
theorem dL_stands_550 : decode cL_stands 550 = .ok (.goto 4, 3) := by decide +kernel
theorem dL_stands_553 : decode cL_stands 553 = .ok (.iconst 0, 1) := by decide +kernel
theorem dL_stands_554 : decode cL_stands 554 = .ok (.iadd, 1) := by decide +kernel
theorem dL_stands_555 : decode cL_stands 555 = .ok (.istore 7, 2) := by decide +kernel
theorem dL_stands_557 : decode cL_stands 557 = .ok (.iload 8, 2) := by decide +kernel
theorem dL_stands_559 : decode cL_stands 559 = .ok (.aload_n 0, 1) := by decide +kernel
theorem dL_stands_560 : decode cL_stands 560 = .ok (.iload 11, 2) := by decide +kernel
theorem dL_stands_562 : decode cL_stands 562 = .ok (.iload 9, 2) := by decide +kernel
theorem dL_stands_564 : decode cL_stands 564 = .ok (.invokevirtual 178, 3) := by decide +kernel
theorem dL_stands_567 : decode cL_stands 567 = .ok (.iconst (-1), 1) := by decide +kernel
theorem dL_stands_568 : decode cL_stands 568 = .ok (.if_icmp .ne 7, 3) := by decide +kernel
theorem dL_stands_571 : decode cL_stands 571 = .ok (.iconst 1, 1) := by decide +kernel
theorem dL_stands_572 : decode cL_stands 572 = .ok (.goto 4, 3) := by decide +kernel
theorem dL_stands_575 : decode cL_stands 575 = .ok (.iconst 0, 1) := by decide +kernel
theorem dL_stands_576 : decode cL_stands 576 = .ok (.iadd, 1) := by decide +kernel
theorem dL_stands_577 : decode cL_stands 577 = .ok (.istore 8, 2) := by decide +kernel
theorem dL_stands_579 : decode cL_stands 579 = .ok (.iload 10, 2) := by decide +kernel
theorem dL_stands_581 : decode cL_stands 581 = .ok (.aload_n 0, 1) := by decide +kernel
theorem dL_stands_582 : decode cL_stands 582 = .ok (.iload 11, 2) := by decide +kernel
theorem dL_stands_584 : decode cL_stands 584 = .ok (.iload 9, 2) := by decide +kernel
theorem dL_stands_586 : decode cL_stands 586 = .ok (.invokevirtual 178, 3) := by decide +kernel
theorem dL_stands_589 : decode cL_stands 589 = .ok (.ifCond .ne 7, 3) := by decide +kernel
theorem dL_stands_592 : decode cL_stands 592 = .ok (.iconst 1, 1) := by decide +kernel
theorem dL_stands_593 : decode cL_stands 593 = .ok (.goto 4, 3) := by decide +kernel
theorem dL_stands_596 : decode cL_stands 596 = .ok (.iconst 0, 1) := by decide +kernel
theorem dL_stands_597 : decode cL_stands 597 = .ok (.iadd, 1) := by decide +kernel
theorem dL_stands_598 : decode cL_stands 598 = .ok (.istore 10, 2) := by decide +kernel
theorem dL_stands_600 : decode cL_stands 600 = .ok (.iinc 11 1, 3) := by decide +kernel
theorem dL_stands_603 : decode cL_stands 603 = .ok (.goto (-77), 3) := by decide +kernel
theorem dL_stands_606 : decode cL_stands 606 = .ok (.aload_n 0, 1) := by decide +kernel
theorem dL_stands_607 : decode cL_stands 607 = .ok (.iload 9, 2) := by decide +kernel
theorem dL_stands_609 : decode cL_stands 609 = .ok (.invokevirtual 197, 3) := by decide +kernel
theorem dL_stands_612 : decode cL_stands 612 = .ok (.iload 10, 2) := by decide +kernel
theorem dL_stands_614 : decode cL_stands 614 = .ok (.if_icmp .eq 5, 3) := by decide +kernel
theorem dL_stands_617 : decode cL_stands 617 = .ok (.iconst 0, 1) := by decide +kernel
theorem dL_stands_618 : decode cL_stands 618 = .ok (.ireturn, 1) := by decide +kernel
theorem dL_stands_619 : decode cL_stands 619 = .ok (.iinc 9 1, 3) := by decide +kernel
theorem dL_stands_622 : decode cL_stands 622 = .ok (.goto (-112), 3) := by decide +kernel
theorem dL_stands_625 : decode cL_stands 625 = .ok (.iload 7, 2) := by decide +kernel
theorem dL_stands_627 : decode cL_stands 627 = .ok (.iload_n 2, 1) := by decide +kernel
theorem dL_stands_628 : decode cL_stands 628 = .ok (.if_icmp .ne 47, 3) := by decide +kernel
theorem dL_stands_631 : decode cL_stands 631 = .ok (.aload_n 0, 1) := by decide +kernel
theorem dL_stands_632 : decode cL_stands 632 = .ok (.bipush 7, 2) := by decide +kernel
theorem dL_stands_634 : decode cL_stands 634 = .ok (.invokevirtual 94, 3) := by decide +kernel
theorem dL_stands_637 : decode cL_stands 637 = .ok (.iload_n 2, 1) := by decide +kernel
theorem dL_stands_638 : decode cL_stands 638 = .ok (.if_icmp .ne 37, 3) := by decide +kernel
theorem dL_stands_641 : decode cL_stands 641 = .ok (.iload 8, 2) := by decide +kernel
theorem dL_stands_643 : decode cL_stands 643 = .ok (.aload_n 0, 1) := by decide +kernel
theorem dL_stands_644 : decode cL_stands 644 = .ok (.iconst 2, 1) := by decide +kernel
theorem dL_stands_645 : decode cL_stands 645 = .ok (.invokevirtual 94, 3) := by decide +kernel
theorem dL_stands_648 : decode cL_stands 648 = .ok (.if_icmp .ne 27, 3) := by decide +kernel
theorem dL_stands_651 : decode cL_stands 651 = .ok (.iload 6, 2) := by decide +kernel
theorem dL_stands_653 : decode cL_stands 653 = .ok (.iload_n 2, 1) := by decide +kernel
theorem dL_stands_654 : decode cL_stands 654 = .ok (.if_icmp .gt 21, 3) := by decide +kernel
theorem dL_stands_657 : decode cL_stands 657 = .ok (.aload_n 0, 1) := by decide +kernel
theorem dL_stands_658 : decode cL_stands 658 = .ok (.invokevirtual 200, 3) := by decide +kernel
theorem dL_stands_661 : decode cL_stands 661 = .ok (.iload 4, 2) := by decide +kernel
theorem dL_stands_663 : decode cL_stands 663 = .ok (.if_icmp .ne 12, 3) := by decide +kernel
theorem dL_stands_666 : decode cL_stands 666 = .ok (.aload_n 0, 1) := by decide +kernel
theorem dL_stands_667 : decode cL_stands 667 = .ok (.invokevirtual 203, 3) := by decide +kernel
theorem dL_stands_670 : decode cL_stands 670 = .ok (.iload 5, 2) := by decide +kernel
theorem dL_stands_672 : decode cL_stands 672 = .ok (.if_icmp .eq 5, 3) := by decide +kernel
theorem dL_stands_675 : decode cL_stands 675 = .ok (.iconst 0, 1) := by decide +kernel
theorem dL_stands_676 : decode cL_stands 676 = .ok (.ireturn, 1) := by decide +kernel
theorem dL_stands_677 : decode cL_stands 677 = .ok (.aload_n 0, 1) := by decide +kernel
theorem dL_stands_678 : decode cL_stands 678 = .ok (.invokevirtual 206, 3) := by decide +kernel
theorem dL_stands_681 : decode cL_stands 681 = .ok (.iload_n 2, 1) := by decide +kernel
theorem dL_stands_682 : decode cL_stands 682 = .ok (.ifCond .ne 7, 3) := by decide +kernel
theorem dL_stands_685 : decode cL_stands 685 = .ok (.dconst 0, 1) := by decide +kernel
theorem dL_stands_686 : decode cL_stands 686 = .ok (.goto 8, 3) := by decide +kernel
theorem dL_stands_689 : decode cL_stands 689 = .ok (.iload_n 3, 1) := by decide +kernel
theorem dL_stands_690 : decode cL_stands 690 = .ok (.i2d, 1) := by decide +kernel
theorem dL_stands_691 : decode cL_stands 691 = .ok (.iload_n 2, 1) := by decide +kernel
theorem dL_stands_692 : decode cL_stands 692 = .ok (.i2d, 1) := by decide +kernel
theorem dL_stands_693 : decode cL_stands 693 = .ok (.ddiv, 1) := by decide +kernel
theorem dL_stands_694 : decode cL_stands 694 = .ok (.dcmp .l, 1) := by decide +kernel
theorem dL_stands_695 : decode cL_stands 695 = .ok (.ifCond .ne 25, 3) := by decide +kernel
theorem dL_stands_698 : decode cL_stands 698 = .ok (.aload_n 0, 1) := by decide +kernel
theorem dL_stands_699 : decode cL_stands 699 = .ok (.invokevirtual 210, 3) := by decide +kernel
theorem dL_stands_702 : decode cL_stands 702 = .ok (.iload_n 2, 1) := by decide +kernel
theorem dL_stands_703 : decode cL_stands 703 = .ok (.ifCond .ne 7, 3) := by decide +kernel
theorem dL_stands_706 : decode cL_stands 706 = .ok (.fconst 1, 1) := by decide +kernel
theorem dL_stands_707 : decode cL_stands 707 = .ok (.goto 9, 3) := by decide +kernel
theorem dL_stands_710 : decode cL_stands 710 = .ok (.iload 6, 2) := by decide +kernel
theorem dL_stands_712 : decode cL_stands 712 = .ok (.i2f, 1) := by decide +kernel
theorem dL_stands_713 : decode cL_stands 713 = .ok (.iload_n 2, 1) := by decide +kernel
theorem dL_stands_714 : decode cL_stands 714 = .ok (.i2f, 1) := by decide +kernel
theorem dL_stands_715 : decode cL_stands 715 = .ok (.fdiv, 1) := by decide +kernel
theorem dL_stands_716 : decode cL_stands 716 = .ok (.fcmp .l, 1) := by decide +kernel
theorem dL_stands_717 : decode cL_stands 717 = .ok (.ifCond .eq 5, 3) := by decide +kernel
theorem dL_stands_720 : decode cL_stands 720 = .ok (.iconst 0, 1) := by decide +kernel
theorem dL_stands_721 : decode cL_stands 721 = .ok (.ireturn, 1) := by decide +kernel
theorem dL_stands_722 : decode cL_stands 722 = .ok (.aload_n 0, 1) := by decide +kernel
theorem dL_stands_723 : decode cL_stands 723 = .ok (.bipush 9, 2) := by decide +kernel
theorem dL_stands_725 : decode cL_stands 725 = .ok (.invokevirtual 94, 3) := by decide +kernel
theorem dL_stands_728 : decode cL_stands 728 = .ok (.ifCond .lt 22, 3) := by decide +kernel
theorem dL_stands_731 : decode cL_stands 731 = .ok (.aload_n 0, 1) := by decide +kernel
theorem dL_stands_732 : decode cL_stands 732 = .ok (.bipush 9, 2) := by decide +kernel
theorem dL_stands_734 : decode cL_stands 734 = .ok (.invokevirtual 94, 3) := by decide +kernel
theorem dL_stands_737 : decode cL_stands 737 = .ok (.aload_n 0, 1) := by decide +kernel
theorem dL_stands_738 : decode cL_stands 738 = .ok (.bipush 10, 2) := by decide +kernel
theorem dL_stands_740 : decode cL_stands 740 = .ok (.invokevirtual 94, 3) := by decide +kernel
theorem dL_stands_743 : decode cL_stands 743 = .ok (.if_icmp .gt 7, 3) := by decide +kernel
theorem dL_stands_746 : decode cL_stands 746 = .ok (.iconst 1, 1) := by decide +kernel
theorem dL_stands_747 : decode cL_stands 747 = .ok (.goto 4, 3) := by decide +kernel
theorem dL_stands_750 : decode cL_stands 750 = .ok (.iconst 0, 1) := by decide +kernel
theorem dL_stands_751 : decode cL_stands 751 = .ok (.ireturn, 1) := by decide +kernel
theorem dL_law_0 : decode cL_law 0 = .ok (.new 25, 3) := by decide +kernel
theorem dL_law_3 : decode cL_law 3 = .ok (.dup, 1) := by decide +kernel
theorem dL_law_4 : decode cL_law 4 = .ok (.invokespecial 214, 3) := by decide +kernel
theorem dL_law_7 : decode cL_law 7 = .ok (.astore_n 1, 1) := by decide +kernel
theorem dL_law_8 : decode cL_law 8 = .ok (.aload_n 1, 1) := by decide +kernel
theorem dL_law_9 : decode cL_law 9 = .ok (.aload_n 0, 1) := by decide +kernel
theorem dL_law_10 : decode cL_law 10 = .ok (.invokestatic 215, 3) := by decide +kernel
theorem dL_law_13 : decode cL_law 13 = .ok (.ifCond .eq 10, 3) := by decide +kernel
theorem dL_law_16 : decode cL_law 16 = .ok (.aload_n 1, 1) := by decide +kernel
theorem dL_law_17 : decode cL_law 17 = .ok (.invokestatic 218, 3) := by decide +kernel
theorem dL_law_20 : decode cL_law 20 = .ok (.ifCond .ne 5, 3) := by decide +kernel
theorem dL_law_23 : decode cL_law 23 = .ok (.iconst 0, 1) := by decide +kernel
theorem dL_law_24 : decode cL_law 24 = .ok (.ireturn, 1) := by decide +kernel
theorem dL_law_25 : decode cL_law 25 = .ok (.bipush 50, 2) := by decide +kernel
theorem dL_law_27 : decode cL_law 27 = .ok (.istore_n 2, 1) := by decide +kernel
theorem dL_law_28 : decode cL_law 28 = .ok (.iload_n 2, 1) := by decide +kernel
theorem dL_law_29 : decode cL_law 29 = .ok (.iconst 2, 1) := by decide +kernel
theorem dL_law_30 : decode cL_law 30 = .ok (.iadd, 1) := by decide +kernel
theorem dL_law_31 : decode cL_law 31 = .ok (.sipush 200, 3) := by decide +kernel
theorem dL_law_34 : decode cL_law 34 = .ok (.if_icmp .ge 200, 3) := by decide +kernel
theorem dL_law_37 : decode cL_law 37 = .ok (.iconst 0, 1) := by decide +kernel
theorem dL_law_38 : decode cL_law 38 = .ok (.istore_n 3, 1) := by decide +kernel
theorem dL_law_39 : decode cL_law 39 = .ok (.iload_n 3, 1) := by decide +kernel
theorem dL_law_40 : decode cL_law 40 = .ok (.aload_n 1, 1) := by decide +kernel
theorem dL_law_41 : decode cL_law 41 = .ok (.bipush 6, 2) := by decide +kernel
theorem dL_law_43 : decode cL_law 43 = .ok (.invokevirtual 94, 3) := by decide +kernel
theorem dL_law_46 : decode cL_law 46 = .ok (.if_icmp .ge 18, 3) := by decide +kernel
theorem dL_law_49 : decode cL_law 49 = .ok (.aload_n 1, 1) := by decide +kernel
theorem dL_law_50 : decode cL_law 50 = .ok (.iload_n 3, 1) := by decide +kernel
theorem dL_law_51 : decode cL_law 51 = .ok (.iconst 5, 1) := by decide +kernel
theorem dL_law_52 : decode cL_law 52 = .ok (.invokevirtual 171, 3) := by decide +kernel
theorem dL_law_55 : decode cL_law 55 = .ok (.ifCond .le 9, 3) := by decide +kernel
theorem dL_law_58 : decode cL_law 58 = .ok (.iinc 3 1, 3) := by decide +kernel
theorem dL_law_61 : decode cL_law 61 = .ok (.goto (-22), 3) := by decide +kernel
theorem dL_law_64 : decode cL_law 64 = .ok (.iload_n 3, 1) := by decide +kernel
theorem dL_law_65 : decode cL_law 65 = .ok (.newarray .int, 2) := by decide +kernel
theorem dL_law_67 : decode cL_law 67 = .ok (.astore 4, 2) := by decide +kernel
theorem dL_law_69 : decode cL_law 69 = .ok (.iload_n 3, 1) := by decide +kernel
theorem dL_law_70 : decode cL_law 70 = .ok (.newarray .int, 2) := by decide +kernel
theorem dL_law_72 : decode cL_law 72 = .ok (.astore 5, 2) := by decide +kernel
theorem dL_law_74 : decode cL_law 74 = .ok (.iload_n 3, 1) := by decide +kernel
theorem dL_law_75 : decode cL_law 75 = .ok (.newarray .int, 2) := by decide +kernel
theorem dL_law_77 : decode cL_law 77 = .ok (.astore 6, 2) := by decide +kernel
theorem dL_law_79 : decode cL_law 79 = .ok (.iconst 0, 1) := by decide +kernel
theorem dL_law_80 : decode cL_law 80 = .ok (.istore 7, 2) := by decide +kernel
theorem dL_law_82 : decode cL_law 82 = .ok (.iload 7, 2) := by decide +kernel
theorem dL_law_84 : decode cL_law 84 = .ok (.iload_n 3, 1) := by decide +kernel
theorem dL_law_85 : decode cL_law 85 = .ok (.if_icmp .ge 45, 3) := by decide +kernel
theorem dL_law_88 : decode cL_law 88 = .ok (.aload 4, 2) := by decide +kernel
theorem dL_law_90 : decode cL_law 90 = .ok (.iload 7, 2) := by decide +kernel
theorem dL_law_92 : decode cL_law 92 = .ok (.aload_n 1, 1) := by decide +kernel
theorem dL_law_93 : decode cL_law 93 = .ok (.iload 7, 2) := by decide +kernel
theorem dL_law_95 : decode cL_law 95 = .ok (.iconst 3, 1) := by decide +kernel
theorem dL_law_96 : decode cL_law 96 = .ok (.invokevirtual 171, 3) := by decide +kernel
theorem dL_law_99 : decode cL_law 99 = .ok (.iastore, 1) := by decide +kernel
theorem dL_law_100 : decode cL_law 100 = .ok (.aload 5, 2) := by decide +kernel
theorem dL_law_102 : decode cL_law 102 = .ok (.iload 7, 2) := by decide +kernel
theorem dL_law_104 : decode cL_law 104 = .ok (.aload_n 1, 1) := by decide +kernel
theorem dL_law_105 : decode cL_law 105 = .ok (.iload 7, 2) := by decide +kernel
theorem dL_law_107 : decode cL_law 107 = .ok (.iconst 2, 1) := by decide +kernel
theorem dL_law_108 : decode cL_law 108 = .ok (.invokevirtual 171, 3) := by decide +kernel
theorem dL_law_111 : decode cL_law 111 = .ok (.iastore, 1) := by decide +kernel
theorem dL_law_112 : decode cL_law 112 = .ok (.aload 6, 2) := by decide +kernel
theorem dL_law_114 : decode cL_law 114 = .ok (.iload 7, 2) := by decide +kernel
theorem dL_law_116 : decode cL_law 116 = .ok (.aload_n 1, 1) := by decide +kernel
theorem dL_law_117 : decode cL_law 117 = .ok (.iload 7, 2) := by decide +kernel
theorem dL_law_119 : decode cL_law 119 = .ok (.iconst 0, 1) := by decide +kernel
theorem dL_law_120 : decode cL_law 120 = .ok (.invokevirtual 173, 3) := by decide +kernel
theorem dL_law_123 : decode cL_law 123 = .ok (.iastore, 1) := by decide +kernel
theorem dL_law_124 : decode cL_law 124 = .ok (.iinc 7 1, 3) := by decide +kernel
theorem dL_law_127 : decode cL_law 127 = .ok (.goto (-45), 3) := by decide +kernel
theorem dL_law_130 : decode cL_law 130 = .ok (.aload_n 1, 1) := by decide +kernel
theorem dL_law_131 : decode cL_law 131 = .ok (.bipush 8, 2) := by decide +kernel
theorem dL_law_133 : decode cL_law 133 = .ok (.invokevirtual 94, 3) := by decide +kernel
theorem dL_law_136 : decode cL_law 136 = .ok (.istore 7, 2) := by decide +kernel
theorem dL_law_138 : decode cL_law 138 = .ok (.aload_n 1, 1) := by decide +kernel
theorem dL_law_139 : decode cL_law 139 = .ok (.aload_n 0, 1) := by decide +kernel
theorem dL_law_140 : decode cL_law 140 = .ok (.iload_n 2, 1) := by decide +kernel
theorem dL_law_141 : decode cL_law 141 = .ok (.invokestatic 222, 3) := by decide +kernel
theorem dL_law_144 : decode cL_law 144 = .ok (.istore 8, 2) := by decide +kernel
theorem dL_law_146 : decode cL_law 146 = .ok (.aload_n 1, 1) := by decide +kernel
theorem dL_law_147 : decode cL_law 147 = .ok (.invokestatic 218, 3) := by decide +kernel
theorem dL_law_150 : decode cL_law 150 = .ok (.ifCond .eq 14, 3) := by decide +kernel
theorem dL_law_153 : decode cL_law 153 = .ok (.aload_n 1, 1) := by decide +kernel
theorem dL_law_154 : decode cL_law 154 = .ok (.bipush 8, 2) := by decide +kernel
theorem dL_law_156 : decode cL_law 156 = .ok (.invokevirtual 94, 3) := by decide +kernel
theorem dL_law_159 : decode cL_law 159 = .ok (.iload 7, 2) := by decide +kernel
theorem dL_law_161 : decode cL_law 161 = .ok (.if_icmp .ge 5, 3) := by decide +kernel
theorem dL_law_164 : decode cL_law 164 = .ok (.iconst 0, 1) := by decide +kernel
theorem dL_law_165 : decode cL_law 165 = .ok (.ireturn, 1) := by decide +kernel
theorem dL_law_166 : decode cL_law 166 = .ok (.iconst 0, 1) := by decide +kernel
theorem dL_law_167 : decode cL_law 167 = .ok (.istore 9, 2) := by decide +kernel
theorem dL_law_169 : decode cL_law 169 = .ok (.iload 9, 2) := by decide +kernel
theorem dL_law_171 : decode cL_law 171 = .ok (.iload_n 3, 1) := by decide +kernel
theorem dL_law_172 : decode cL_law 172 = .ok (.if_icmp .ge 56, 3) := by decide +kernel
theorem dL_law_175 : decode cL_law 175 = .ok (.aload_n 1, 1) := by decide +kernel
theorem dL_law_176 : decode cL_law 176 = .ok (.iload 9, 2) := by decide +kernel
theorem dL_law_178 : decode cL_law 178 = .ok (.iconst 3, 1) := by decide +kernel
theorem dL_law_179 : decode cL_law 179 = .ok (.invokevirtual 171, 3) := by decide +kernel
theorem dL_law_182 : decode cL_law 182 = .ok (.aload 4, 2) := by decide +kernel
theorem dL_law_184 : decode cL_law 184 = .ok (.iload 9, 2) := by decide +kernel
theorem dL_law_186 : decode cL_law 186 = .ok (.iaload, 1) := by decide +kernel
theorem dL_law_187 : decode cL_law 187 = .ok (.if_icmp .ne 33, 3) := by decide +kernel
theorem dL_law_190 : decode cL_law 190 = .ok (.aload_n 1, 1) := by decide +kernel
theorem dL_law_191 : decode cL_law 191 = .ok (.iload 9, 2) := by decide +kernel
theorem dL_law_193 : decode cL_law 193 = .ok (.iconst 2, 1) := by decide +kernel
theorem dL_law_194 : decode cL_law 194 = .ok (.invokevirtual 171, 3) := by decide +kernel
theorem dL_law_197 : decode cL_law 197 = .ok (.aload 5, 2) := by decide +kernel
theorem dL_law_199 : decode cL_law 199 = .ok (.iload 9, 2) := by decide +kernel
theorem dL_law_201 : decode cL_law 201 = .ok (.iaload, 1) := by decide +kernel
theorem dL_law_202 : decode cL_law 202 = .ok (.if_icmp .ne 18, 3) := by decide +kernel
theorem dL_law_205 : decode cL_law 205 = .ok (.aload_n 1, 1) := by decide +kernel
theorem dL_law_206 : decode cL_law 206 = .ok (.iload 9, 2) := by decide +kernel
theorem dL_law_208 : decode cL_law 208 = .ok (.iconst 0, 1) := by decide +kernel
theorem dL_law_209 : decode cL_law 209 = .ok (.invokevirtual 173, 3) := by decide +kernel
theorem dL_law_212 : decode cL_law 212 = .ok (.aload 6, 2) := by decide +kernel
theorem dL_law_214 : decode cL_law 214 = .ok (.iload 9, 2) := by decide +kernel
theorem dL_law_216 : decode cL_law 216 = .ok (.iaload, 1) := by decide +kernel
theorem dL_law_217 : decode cL_law 217 = .ok (.if_icmp .eq 5, 3) := by decide +kernel
theorem dL_law_220 : decode cL_law 220 = .ok (.iconst 0, 1) := by decide +kernel
theorem dL_law_221 : decode cL_law 221 = .ok (.ireturn, 1) := by decide +kernel
theorem dL_law_222 : decode cL_law 222 = .ok (.iinc 9 1, 3) := by decide +kernel
theorem dL_law_225 : decode cL_law 225 = .ok (.goto (-56), 3) := by decide +kernel
theorem dL_law_228 : decode cL_law 228 = .ok (.iinc 2 3, 3) := by decide +kernel
theorem dL_law_231 : decode cL_law 231 = .ok (.goto (-203), 3) := by decide +kernel
theorem dL_law_234 : decode cL_law 234 = .ok (.iconst 1, 1) := by decide +kernel
theorem dL_law_235 : decode cL_law 235 = .ok (.ireturn, 1) := by decide +kernel
