theorem dX8_writePart_10 : decode cX8_writePart 10 = .ok (.invokevirtual 152, 3) := by decide +kernel
theorem dX8_writePart_13 : decode cX8_writePart 13 = .ok (.istore_n 2, 1) := by decide +kernel
theorem dX8_writePart_14 : decode cX8_writePart 14 = .ok (.iload_n 2, 1) := by decide +kernel
theorem dX8_writePart_15 : decode cX8_writePart 15 = .ok (.aload_n 0, 1) := by decide +kernel
theorem dX8_writePart_16 : decode cX8_writePart 16 = .ok (.getfield 42, 3) := by decide +kernel
theorem dX8_writePart_19 : decode cX8_writePart 19 = .ok (.getfield 156, 3) := by decide +kernel
theorem dX8_writePart_22 : decode cX8_writePart 22 = .ok (.iload_n 1, 1) := by decide +kernel
theorem dX8_writePart_23 : decode cX8_writePart 23 = .ok (.invokevirtual 160, 3) := by decide +kernel
theorem dX8_writePart_26 : decode cX8_writePart 26 = .ok (.iadd, 1) := by decide +kernel
theorem dX8_writePart_27 : decode cX8_writePart 27 = .ok (.istore_n 3, 1) := by decide +kernel
theorem dX8_writePart_28 : decode cX8_writePart 28 = .ok (.aload_n 0, 1) := by decide +kernel
theorem dX8_writePart_29 : decode cX8_writePart 29 = .ok (.getfield 18, 3) := by decide +kernel
theorem dX8_writePart_32 : decode cX8_writePart 32 = .ok (.iconst 0, 1) := by decide +kernel
theorem dX8_writePart_33 : decode cX8_writePart 33 = .ok (.putfield 77, 3) := by decide +kernel
theorem dX8_writePart_36 : decode cX8_writePart 36 = .ok (.iload_n 2, 1) := by decide +kernel
theorem dX8_writePart_37 : decode cX8_writePart 37 = .ok (.istore 4, 2) := by decide +kernel
theorem dX8_writePart_39 : decode cX8_writePart 39 = .ok (.iload 4, 2) := by decide +kernel
theorem dX8_writePart_41 : decode cX8_writePart 41 = .ok (.iload_n 3, 1) := by decide +kernel
theorem dX8_writePart_42 : decode cX8_writePart 42 = .ok (.if_icmp .ge 30, 3) := by decide +kernel
theorem dX8_writePart_45 : decode cX8_writePart 45 = .ok (.iload 4, 2) := by decide +kernel
theorem dX8_writePart_47 : decode cX8_writePart 47 = .ok (.iload_n 2, 1) := by decide +kernel
theorem dX8_writePart_48 : decode cX8_writePart 48 = .ok (.if_icmp .le 12, 3) := by decide +kernel
theorem dX8_writePart_51 : decode cX8_writePart 51 = .ok (.aload_n 0, 1) := by decide +kernel
theorem dX8_writePart_52 : decode cX8_writePart 52 = .ok (.getfield 18, 3) := by decide +kernel
theorem dX8_writePart_55 : decode cX8_writePart 55 = .ok (.bipush 32, 2) := by decide +kernel
theorem dX8_writePart_57 : decode cX8_writePart 57 = .ok (.invokevirtual 303, 3) := by decide +kernel
theorem dX8_writePart_60 : decode cX8_writePart 60 = .ok (.aload_n 0, 1) := by decide +kernel
theorem dX8_writePart_61 : decode cX8_writePart 61 = .ok (.iload 4, 2) := by decide +kernel
theorem dX8_writePart_63 : decode cX8_writePart 63 = .ok (.invokevirtual 306, 3) := by decide +kernel
theorem dX8_writePart_66 : decode cX8_writePart 66 = .ok (.iinc 4 1, 3) := by decide +kernel
theorem dX8_writePart_69 : decode cX8_writePart 69 = .ok (.goto (-30), 3) := by decide +kernel
theorem dX8_writePart_72 : decode cX8_writePart 72 = .ok (.aload_n 0, 1) := by decide +kernel
theorem dX8_writePart_73 : decode cX8_writePart 73 = .ok (.getfield 18, 3) := by decide +kernel
theorem dX8_writePart_76 : decode cX8_writePart 76 = .ok (.getfield 77, 3) := by decide +kernel
theorem dX8_writePart_79 : decode cX8_writePart 79 = .ok (.ireturn, 1) := by decide +kernel
theorem dX8_outputByte_0 : decode cX8_outputByte 0 = .ok (.iload_n 1, 1) := by decide +kernel
theorem dX8_outputByte_1 : decode cX8_outputByte 1 = .ok (.ifCond .lt 14, 3) := by decide +kernel
theorem dX8_outputByte_4 : decode cX8_outputByte 4 = .ok (.iload_n 1, 1) := by decide +kernel
theorem dX8_outputByte_5 : decode cX8_outputByte 5 = .ok (.aload_n 0, 1) := by decide +kernel
theorem dX8_outputByte_6 : decode cX8_outputByte 6 = .ok (.getfield 18, 3) := by decide +kernel
theorem dX8_outputByte_9 : decode cX8_outputByte 9 = .ok (.getfield 77, 3) := by decide +kernel
theorem dX8_outputByte_12 : decode cX8_outputByte 12 = .ok (.if_icmp .lt 11, 3) := by decide +kernel
theorem dX8_outputByte_15 : decode cX8_outputByte 15 = .ok (.new 309, 3) := by decide +kernel
theorem dX8_outputByte_18 : decode cX8_outputByte 18 = .ok (.dup, 1) := by decide +kernel
theorem dX8_outputByte_19 : decode cX8_outputByte 19 = .ok (.invokespecial 311, 3) := by decide +kernel
theorem dX8_outputByte_22 : decode cX8_outputByte 22 = .ok (.athrow, 1) := by decide +kernel
theorem dX8_outputByte_23 : decode cX8_outputByte 23 = .ok (.aload_n 0, 1) := by decide +kernel
theorem dX8_outputByte_24 : decode cX8_outputByte 24 = .ok (.getfield 18, 3) := by decide +kernel
theorem dX8_outputByte_27 : decode cX8_outputByte 27 = .ok (.getfield 312, 3) := by decide +kernel
theorem dX8_outputByte_30 : decode cX8_outputByte 30 = .ok (.iload_n 1, 1) := by decide +kernel
theorem dX8_outputByte_31 : decode cX8_outputByte 31 = .ok (.invokevirtual 160, 3) := by decide +kernel
theorem dX8_outputByte_34 : decode cX8_outputByte 34 = .ok (.ireturn, 1) := by decide +kernel
theorem dX8_needPart_0 : decode cX8_needPart 0 = .ok (.iload_n 1, 1) := by decide +kernel
theorem dX8_needPart_1 : decode cX8_needPart 1 = .ok (.ifCond .lt 14, 3) := by decide +kernel
theorem dX8_needPart_4 : decode cX8_needPart 4 = .ok (.iload_n 1, 1) := by decide +kernel
theorem dX8_needPart_5 : decode cX8_needPart 5 = .ok (.aload_n 0, 1) := by decide +kernel
theorem dX8_needPart_6 : decode cX8_needPart 6 = .ok (.getfield 42, 3) := by decide +kernel
theorem dX8_needPart_9 : decode cX8_needPart 9 = .ok (.getfield 119, 3) := by decide +kernel
theorem dX8_needPart_12 : decode cX8_needPart 12 = .ok (.if_icmp .lt 11, 3) := by decide +kernel
theorem dX8_needPart_15 : decode cX8_needPart 15 = .ok (.new 198, 3) := by decide +kernel
theorem dX8_needPart_18 : decode cX8_needPart 18 = .ok (.dup, 1) := by decide +kernel
theorem dX8_needPart_19 : decode cX8_needPart 19 = .ok (.invokespecial 200, 3) := by decide +kernel
theorem dX8_needPart_22 : decode cX8_needPart 22 = .ok (.athrow, 1) := by decide +kernel
theorem dX8_needPart_23 : decode cX8_needPart 23 = .ok (.return_, 1) := by decide +kernel
theorem dX8_needWord_0 : decode cX8_needWord 0 = .ok (.iload_n 1, 1) := by decide +kernel
theorem dX8_needWord_1 : decode cX8_needWord 1 = .ok (.ifCond .lt 14, 3) := by decide +kernel
theorem dX8_needWord_4 : decode cX8_needWord 4 = .ok (.iload_n 1, 1) := by decide +kernel
theorem dX8_needWord_5 : decode cX8_needWord 5 = .ok (.aload_n 0, 1) := by decide +kernel
theorem dX8_needWord_6 : decode cX8_needWord 6 = .ok (.getfield 42, 3) := by decide +kernel
theorem dX8_needWord_9 : decode cX8_needWord 9 = .ok (.getfield 122, 3) := by decide +kernel
theorem dX8_needWord_12 : decode cX8_needWord 12 = .ok (.if_icmp .lt 11, 3) := by decide +kernel
theorem dX8_needWord_15 : decode cX8_needWord 15 = .ok (.new 198, 3) := by decide +kernel
theorem dX8_needWord_18 : decode cX8_needWord 18 = .ok (.dup, 1) := by decide +kernel
theorem dX8_needWord_19 : decode cX8_needWord 19 = .ok (.invokespecial 200, 3) := by decide +kernel
theorem dX8_needWord_22 : decode cX8_needWord 22 = .ok (.athrow, 1) := by decide +kernel
theorem dX8_needWord_23 : decode cX8_needWord 23 = .ok (.return_, 1) := by decide +kernel
theorem dX8_needRow_0 : decode cX8_needRow 0 = .ok (.iload_n 1, 1) := by decide +kernel
theorem dX8_needRow_1 : decode cX8_needRow 1 = .ok (.ifCond .lt 14, 3) := by decide +kernel
theorem dX8_needRow_4 : decode cX8_needRow 4 = .ok (.iload_n 1, 1) := by decide +kernel
theorem dX8_needRow_5 : decode cX8_needRow 5 = .ok (.aload_n 0, 1) := by decide +kernel
theorem dX8_needRow_6 : decode cX8_needRow 6 = .ok (.getfield 42, 3) := by decide +kernel
theorem dX8_needRow_9 : decode cX8_needRow 9 = .ok (.getfield 109, 3) := by decide +kernel
theorem dX8_needRow_12 : decode cX8_needRow 12 = .ok (.if_icmp .lt 11, 3) := by decide +kernel
theorem dX8_needRow_15 : decode cX8_needRow 15 = .ok (.new 198, 3) := by decide +kernel
theorem dX8_needRow_18 : decode cX8_needRow 18 = .ok (.dup, 1) := by decide +kernel
theorem dX8_needRow_19 : decode cX8_needRow 19 = .ok (.invokespecial 200, 3) := by decide +kernel
theorem dX8_needRow_22 : decode cX8_needRow 22 = .ok (.athrow, 1) := by decide +kernel
theorem dX8_needRow_23 : decode cX8_needRow 23 = .ok (.return_, 1) := by decide +kernel
theorem dX8_needCell_0 : decode cX8_needCell 0 = .ok (.aload_n 0, 1) := by decide +kernel
theorem dX8_needCell_1 : decode cX8_needCell 1 = .ok (.iload_n 2, 1) := by decide +kernel
theorem dX8_needCell_2 : decode cX8_needCell 2 = .ok (.invokevirtual 216, 3) := by decide +kernel
theorem dX8_needCell_5 : decode cX8_needCell 5 = .ok (.iload_n 1, 1) := by decide +kernel
theorem dX8_needCell_6 : decode cX8_needCell 6 = .ok (.ifCond .lt 14, 3) := by decide +kernel
theorem dX8_needCell_9 : decode cX8_needCell 9 = .ok (.iload_n 1, 1) := by decide +kernel
theorem dX8_needCell_10 : decode cX8_needCell 10 = .ok (.aload_n 0, 1) := by decide +kernel
theorem dX8_needCell_11 : decode cX8_needCell 11 = .ok (.getfield 42, 3) := by decide +kernel
theorem dX8_needCell_14 : decode cX8_needCell 14 = .ok (.getfield 106, 3) := by decide +kernel
theorem dX8_needCell_17 : decode cX8_needCell 17 = .ok (.if_icmp .lt 11, 3) := by decide +kernel
theorem dX8_needCell_20 : decode cX8_needCell 20 = .ok (.new 198, 3) := by decide +kernel
theorem dX8_needCell_23 : decode cX8_needCell 23 = .ok (.dup, 1) := by decide +kernel
theorem dX8_needCell_24 : decode cX8_needCell 24 = .ok (.invokespecial 200, 3) := by decide +kernel
theorem dX8_needCell_27 : decode cX8_needCell 27 = .ok (.athrow, 1) := by decide +kernel
theorem dX8_needCell_28 : decode cX8_needCell 28 = .ok (.return_, 1) := by decide +kernel
theorem dX8_needSlot_0 : decode cX8_needSlot 0 = .ok (.iload_n 1, 1) := by decide +kernel
theorem dX8_needSlot_1 : decode cX8_needSlot 1 = .ok (.ifCond .lt 12, 3) := by decide +kernel
theorem dX8_needSlot_4 : decode cX8_needSlot 4 = .ok (.iload_n 1, 1) := by decide +kernel
theorem dX8_needSlot_5 : decode cX8_needSlot 5 = .ok (.aload_n 0, 1) := by decide +kernel
theorem dX8_needSlot_6 : decode cX8_needSlot 6 = .ok (.getfield 73, 3) := by decide +kernel
theorem dX8_needSlot_9 : decode cX8_needSlot 9 = .ok (.arraylength, 1) := by decide +kernel
theorem dX8_needSlot_10 : decode cX8_needSlot 10 = .ok (.if_icmp .lt 11, 3) := by decide +kernel
theorem dX8_needSlot_13 : decode cX8_needSlot 13 = .ok (.new 198, 3) := by decide +kernel
theorem dX8_needSlot_16 : decode cX8_needSlot 16 = .ok (.dup, 1) := by decide +kernel
theorem dX8_needSlot_17 : decode cX8_needSlot 17 = .ok (.invokespecial 200, 3) := by decide +kernel
theorem dX8_needSlot_20 : decode cX8_needSlot 20 = .ok (.athrow, 1) := by decide +kernel
theorem dX8_needSlot_21 : decode cX8_needSlot 21 = .ok (.return_, 1) := by decide +kernel
theorem dX8_needGap_0 : decode cX8_needGap 0 = .ok (.iload_n 1, 1) := by decide +kernel
theorem dX8_needGap_1 : decode cX8_needGap 1 = .ok (.ifCond .lt 8, 3) := by decide +kernel
theorem dX8_needGap_4 : decode cX8_needGap 4 = .ok (.iload_n 1, 1) := by decide +kernel
theorem dX8_needGap_5 : decode cX8_needGap 5 = .ok (.iconst 3, 1) := by decide +kernel
theorem dX8_needGap_6 : decode cX8_needGap 6 = .ok (.if_icmp .le 11, 3) := by decide +kernel
theorem dX8_needGap_9 : decode cX8_needGap 9 = .ok (.new 87, 3) := by decide +kernel
theorem dX8_needGap_12 : decode cX8_needGap 12 = .ok (.dup, 1) := by decide +kernel
theorem dX8_needGap_13 : decode cX8_needGap 13 = .ok (.invokespecial 89, 3) := by decide +kernel
theorem dX8_needGap_16 : decode cX8_needGap 16 = .ok (.athrow, 1) := by decide +kernel
theorem dX8_needGap_17 : decode cX8_needGap 17 = .ok (.return_, 1) := by decide +kernel
theorem dX8_laidOnTrial_0 : decode cX8_laidOnTrial 0 = .ok (.aload_n 0, 1) := by decide +kernel
theorem dX8_laidOnTrial_1 : decode cX8_laidOnTrial 1 = .ok (.getfield 56, 3) := by decide +kernel
theorem dX8_laidOnTrial_4 : decode cX8_laidOnTrial 4 = .ok (.aload_n 0, 1) := by decide +kernel
theorem dX8_laidOnTrial_5 : decode cX8_laidOnTrial 5 = .ok (.getfield 53, 3) := by decide +kernel
theorem dX8_laidOnTrial_8 : decode cX8_laidOnTrial 8 = .ok (.invokevirtual 315, 3) := by decide +kernel
theorem dX8_laidOnTrial_11 : decode cX8_laidOnTrial 11 = .ok (.aload_n 0, 1) := by decide +kernel
theorem dX8_laidOnTrial_12 : decode cX8_laidOnTrial 12 = .ok (.getfield 56, 3) := by decide +kernel
theorem dX8_laidOnTrial_15 : decode cX8_laidOnTrial 15 = .ok (.getfield 97, 3) := by decide +kernel
theorem dX8_laidOnTrial_18 : decode cX8_laidOnTrial 18 = .ok (.ireturn, 1) := by decide +kernel
theorem dX8_tryWithout_0 : decode cX8_tryWithout 0 = .ok (.aload_n 0, 1) := by decide +kernel
theorem dX8_tryWithout_1 : decode cX8_tryWithout 1 = .ok (.getfield 53, 3) := by decide +kernel
theorem dX8_tryWithout_4 : decode cX8_tryWithout 4 = .ok (.aload_n 0, 1) := by decide +kernel
theorem dX8_tryWithout_5 : decode cX8_tryWithout 5 = .ok (.getfield 42, 3) := by decide +kernel
theorem dX8_tryWithout_8 : decode cX8_tryWithout 8 = .ok (.invokevirtual 241, 3) := by decide +kernel
theorem dX8_tryWithout_11 : decode cX8_tryWithout 11 = .ok (.aload_n 0, 1) := by decide +kernel
theorem dX8_tryWithout_12 : decode cX8_tryWithout 12 = .ok (.getfield 53, 3) := by decide +kernel
theorem dX8_tryWithout_15 : decode cX8_tryWithout 15 = .ok (.invokevirtual 318, 3) := by decide +kernel
theorem dX8_tryWithout_18 : decode cX8_tryWithout 18 = .ok (.iconst 0, 1) := by decide +kernel
theorem dX8_tryWithout_19 : decode cX8_tryWithout 19 = .ok (.istore_n 2, 1) := by decide +kernel
theorem dX8_tryWithout_20 : decode cX8_tryWithout 20 = .ok (.iload_n 2, 1) := by decide +kernel
theorem dX8_tryWithout_21 : decode cX8_tryWithout 21 = .ok (.aload_n 0, 1) := by decide +kernel
theorem dX8_tryWithout_22 : decode cX8_tryWithout 22 = .ok (.getfield 42, 3) := by decide +kernel
theorem dX8_tryWithout_25 : decode cX8_tryWithout 25 = .ok (.getfield 119, 3) := by decide +kernel
theorem dX8_tryWithout_28 : decode cX8_tryWithout 28 = .ok (.if_icmp .ge 26, 3) := by decide +kernel
theorem dX8_tryWithout_31 : decode cX8_tryWithout 31 = .ok (.iload_n 2, 1) := by decide +kernel
theorem dX8_tryWithout_32 : decode cX8_tryWithout 32 = .ok (.iload_n 1, 1) := by decide +kernel
theorem dX8_tryWithout_33 : decode cX8_tryWithout 33 = .ok (.if_icmp .eq 15, 3) := by decide +kernel
theorem dX8_tryWithout_36 : decode cX8_tryWithout 36 = .ok (.aload_n 0, 1) := by decide +kernel
theorem dX8_tryWithout_37 : decode cX8_tryWithout 37 = .ok (.getfield 53, 3) := by decide +kernel
theorem dX8_tryWithout_40 : decode cX8_tryWithout 40 = .ok (.aload_n 0, 1) := by decide +kernel
theorem dX8_tryWithout_41 : decode cX8_tryWithout 41 = .ok (.getfield 42, 3) := by decide +kernel
theorem dX8_tryWithout_44 : decode cX8_tryWithout 44 = .ok (.iload_n 2, 1) := by decide +kernel
theorem dX8_tryWithout_45 : decode cX8_tryWithout 45 = .ok (.invokevirtual 321, 3) := by decide +kernel
theorem dX8_tryWithout_48 : decode cX8_tryWithout 48 = .ok (.iinc 2 1, 3) := by decide +kernel
theorem dX8_tryWithout_51 : decode cX8_tryWithout 51 = .ok (.goto (-31), 3) := by decide +kernel
theorem dX8_tryWithout_54 : decode cX8_tryWithout 54 = .ok (.return_, 1) := by decide +kernel
theorem dX8_tryMoved_0 : decode cX8_tryMoved 0 = .ok (.aload_n 0, 1) := by decide +kernel
theorem dX8_tryMoved_1 : decode cX8_tryMoved 1 = .ok (.getfield 53, 3) := by decide +kernel
theorem dX8_tryMoved_4 : decode cX8_tryMoved 4 = .ok (.aload_n 0, 1) := by decide +kernel
theorem dX8_tryMoved_5 : decode cX8_tryMoved 5 = .ok (.getfield 42, 3) := by decide +kernel
theorem dX8_tryMoved_8 : decode cX8_tryMoved 8 = .ok (.invokevirtual 241, 3) := by decide +kernel
theorem dX8_tryMoved_11 : decode cX8_tryMoved 11 = .ok (.aload_n 0, 1) := by decide +kernel
theorem dX8_tryMoved_12 : decode cX8_tryMoved 12 = .ok (.getfield 53, 3) := by decide +kernel
theorem dX8_tryMoved_15 : decode cX8_tryMoved 15 = .ok (.invokevirtual 318, 3) := by decide +kernel
theorem dX8_tryMoved_18 : decode cX8_tryMoved 18 = .ok (.iconst 0, 1) := by decide +kernel
theorem dX8_tryMoved_19 : decode cX8_tryMoved 19 = .ok (.istore_n 3, 1) := by decide +kernel
theorem dX8_tryMoved_20 : decode cX8_tryMoved 20 = .ok (.iload_n 3, 1) := by decide +kernel
theorem dX8_tryMoved_21 : decode cX8_tryMoved 21 = .ok (.aload_n 0, 1) := by decide +kernel
theorem dX8_tryMoved_22 : decode cX8_tryMoved 22 = .ok (.getfield 42, 3) := by decide +kernel
theorem dX8_tryMoved_25 : decode cX8_tryMoved 25 = .ok (.getfield 119, 3) := by decide +kernel
theorem dX8_tryMoved_28 : decode cX8_tryMoved 28 = .ok (.if_icmp .ge 26, 3) := by decide +kernel
theorem dX8_tryMoved_31 : decode cX8_tryMoved 31 = .ok (.aload_n 0, 1) := by decide +kernel
theorem dX8_tryMoved_32 : decode cX8_tryMoved 32 = .ok (.getfield 53, 3) := by decide +kernel
theorem dX8_tryMoved_35 : decode cX8_tryMoved 35 = .ok (.aload_n 0, 1) := by decide +kernel
theorem dX8_tryMoved_36 : decode cX8_tryMoved 36 = .ok (.getfield 42, 3) := by decide +kernel
theorem dX8_tryMoved_39 : decode cX8_tryMoved 39 = .ok (.iload_n 3, 1) := by decide +kernel
theorem dX8_tryMoved_40 : decode cX8_tryMoved 40 = .ok (.iload_n 1, 1) := by decide +kernel
theorem dX8_tryMoved_41 : decode cX8_tryMoved 41 = .ok (.iload_n 2, 1) := by decide +kernel
theorem dX8_tryMoved_42 : decode cX8_tryMoved 42 = .ok (.invokestatic 325, 3) := by decide +kernel
theorem dX8_tryMoved_45 : decode cX8_tryMoved 45 = .ok (.invokevirtual 321, 3) := by decide +kernel
theorem dX8_tryMoved_48 : decode cX8_tryMoved 48 = .ok (.iinc 3 1, 3) := by decide +kernel
theorem dX8_tryMoved_51 : decode cX8_tryMoved 51 = .ok (.goto (-31), 3) := by decide +kernel
theorem dX8_tryMoved_54 : decode cX8_tryMoved 54 = .ok (.return_, 1) := by decide +kernel
theorem dX8_partForPlace_0 : decode cX8_partForPlace 0 = .ok (.iload_n 0, 1) := by decide +kernel
theorem dX8_partForPlace_1 : decode cX8_partForPlace 1 = .ok (.iload_n 2, 1) := by decide +kernel
theorem dX8_partForPlace_2 : decode cX8_partForPlace 2 = .ok (.if_icmp .ne 5, 3) := by decide +kernel
theorem dX8_partForPlace_5 : decode cX8_partForPlace 5 = .ok (.iload_n 1, 1) := by decide +kernel
theorem dX8_partForPlace_6 : decode cX8_partForPlace 6 = .ok (.ireturn, 1) := by decide +kernel
theorem dX8_partForPlace_7 : decode cX8_partForPlace 7 = .ok (.iload_n 0, 1) := by decide +kernel
theorem dX8_partForPlace_8 : decode cX8_partForPlace 8 = .ok (.iload_n 2, 1) := by decide +kernel
theorem dX8_partForPlace_9 : decode cX8_partForPlace 9 = .ok (.if_icmp .ge 7, 3) := by decide +kernel
theorem dX8_partForPlace_12 : decode cX8_partForPlace 12 = .ok (.iload_n 0, 1) := by decide +kernel
theorem dX8_partForPlace_13 : decode cX8_partForPlace 13 = .ok (.goto 6, 3) := by decide +kernel
theorem dX8_partForPlace_16 : decode cX8_partForPlace 16 = .ok (.iload_n 0, 1) := by decide +kernel
theorem dX8_partForPlace_17 : decode cX8_partForPlace 17 = .ok (.iconst 1, 1) := by decide +kernel
theorem dX8_partForPlace_18 : decode cX8_partForPlace 18 = .ok (.isub, 1) := by decide +kernel
theorem dX8_partForPlace_19 : decode cX8_partForPlace 19 = .ok (.istore_n 3, 1) := by decide +kernel
theorem dX8_partForPlace_20 : decode cX8_partForPlace 20 = .ok (.iload_n 3, 1) := by decide +kernel
theorem dX8_partForPlace_21 : decode cX8_partForPlace 21 = .ok (.iload_n 1, 1) := by decide +kernel
theorem dX8_partForPlace_22 : decode cX8_partForPlace 22 = .ok (.if_icmp .ge 7, 3) := by decide +kernel
theorem dX8_partForPlace_25 : decode cX8_partForPlace 25 = .ok (.iload_n 3, 1) := by decide +kernel
theorem dX8_partForPlace_26 : decode cX8_partForPlace 26 = .ok (.goto 6, 3) := by decide +kernel
theorem dX8_partForPlace_29 : decode cX8_partForPlace 29 = .ok (.iload_n 3, 1) := by decide +kernel
theorem dX8_partForPlace_30 : decode cX8_partForPlace 30 = .ok (.iconst 1, 1) := by decide +kernel
theorem dX8_partForPlace_31 : decode cX8_partForPlace 31 = .ok (.iadd, 1) := by decide +kernel
theorem dX8_partForPlace_32 : decode cX8_partForPlace 32 = .ok (.ireturn, 1) := by decide +kernel
theorem dX8_tryLetters_0 : decode cX8_tryLetters 0 = .ok (.iload_n 1, 1) := by decide +kernel
theorem dX8_tryLetters_1 : decode cX8_tryLetters 1 = .ok (.istore_n 3, 1) := by decide +kernel
theorem dX8_tryLetters_2 : decode cX8_tryLetters 2 = .ok (.iload_n 3, 1) := by decide +kernel
theorem dX8_tryLetters_3 : decode cX8_tryLetters 3 = .ok (.iload_n 2, 1) := by decide +kernel
theorem dX8_tryLetters_4 : decode cX8_tryLetters 4 = .ok (.if_icmp .ge 27, 3) := by decide +kernel
theorem dX8_tryLetters_7 : decode cX8_tryLetters 7 = .ok (.aload_n 0, 1) := by decide +kernel
theorem dX8_tryLetters_8 : decode cX8_tryLetters 8 = .ok (.getfield 62, 3) := by decide +kernel
theorem dX8_tryLetters_11 : decode cX8_tryLetters 11 = .ok (.aload_n 0, 1) := by decide +kernel
theorem dX8_tryLetters_12 : decode cX8_tryLetters 12 = .ok (.getfield 49, 3) := by decide +kernel
theorem dX8_tryLetters_15 : decode cX8_tryLetters 15 = .ok (.getfield 229, 3) := by decide +kernel
theorem dX8_tryLetters_18 : decode cX8_tryLetters 18 = .ok (.iload_n 3, 1) := by decide +kernel
theorem dX8_tryLetters_19 : decode cX8_tryLetters 19 = .ok (.invokevirtual 160, 3) := by decide +kernel
theorem dX8_tryLetters_22 : decode cX8_tryLetters 22 = .ok (.invokevirtual 232, 3) := by decide +kernel
theorem dX8_tryLetters_25 : decode cX8_tryLetters 25 = .ok (.iinc 3 1, 3) := by decide +kernel
theorem dX8_tryLetters_28 : decode cX8_tryLetters 28 = .ok (.goto (-26), 3) := by decide +kernel
theorem dX8_tryLetters_31 : decode cX8_tryLetters 31 = .ok (.return_, 1) := by decide +kernel
theorem dX8_needCarvedStay_0 : decode cX8_needCarvedStay 0 = .ok (.aload_n 0, 1) := by decide +kernel
theorem dX8_needCarvedStay_1 : decode cX8_needCarvedStay 1 = .ok (.getfield 56, 3) := by decide +kernel
theorem dX8_needCarvedStay_4 : decode cX8_needCarvedStay 4 = .ok (.aload_n 0, 1) := by decide +kernel
theorem dX8_needCarvedStay_5 : decode cX8_needCarvedStay 5 = .ok (.getfield 53, 3) := by decide +kernel
theorem dX8_needCarvedStay_8 : decode cX8_needCarvedStay 8 = .ok (.invokevirtual 315, 3) := by decide +kernel
theorem dX8_needCarvedStay_11 : decode cX8_needCarvedStay 11 = .ok (.aload_n 0, 1) := by decide +kernel
theorem dX8_needCarvedStay_12 : decode cX8_needCarvedStay 12 = .ok (.invokevirtual 329, 3) := by decide +kernel
theorem dX8_needCarvedStay_15 : decode cX8_needCarvedStay 15 = .ok (.ifCond .ne 11, 3) := by decide +kernel
theorem dX8_needCarvedStay_18 : decode cX8_needCarvedStay 18 = .ok (.new 81, 3) := by decide +kernel
theorem dX8_needCarvedStay_21 : decode cX8_needCarvedStay 21 = .ok (.dup, 1) := by decide +kernel
theorem dX8_needCarvedStay_22 : decode cX8_needCarvedStay 22 = .ok (.invokespecial 83, 3) := by decide +kernel
theorem dX8_needCarvedStay_25 : decode cX8_needCarvedStay 25 = .ok (.athrow, 1) := by decide +kernel
theorem dX8_needCarvedStay_26 : decode cX8_needCarvedStay 26 = .ok (.return_, 1) := by decide +kernel
theorem dX8_settle_0 : decode cX8_settle 0 = .ok (.aload_n 0, 1) := by decide +kernel
theorem dX8_settle_1 : decode cX8_settle 1 = .ok (.getfield 69, 3) := by decide +kernel
theorem dX8_settle_4 : decode cX8_settle 4 = .ok (.aload_n 0, 1) := by decide +kernel
theorem dX8_settle_5 : decode cX8_settle 5 = .ok (.getfield 42, 3) := by decide +kernel
theorem dX8_settle_8 : decode cX8_settle 8 = .ok (.invokevirtual 333, 3) := by decide +kernel
theorem dX8_settle_11 : decode cX8_settle 11 = .ok (.aload_n 0, 1) := by decide +kernel
theorem dX8_settle_12 : decode cX8_settle 12 = .ok (.getfield 42, 3) := by decide +kernel
theorem dX8_settle_15 : decode cX8_settle 15 = .ok (.aload_n 0, 1) := by decide +kernel
theorem dX8_settle_16 : decode cX8_settle 16 = .ok (.getfield 53, 3) := by decide +kernel
theorem dX8_settle_19 : decode cX8_settle 19 = .ok (.invokevirtual 241, 3) := by decide +kernel
theorem dX8_settle_22 : decode cX8_settle 22 = .ok (.aload_n 0, 1) := by decide +kernel
theorem dX8_settle_23 : decode cX8_settle 23 = .ok (.invokevirtual 297, 3) := by decide +kernel
theorem dX8_settle_26 : decode cX8_settle 26 = .ok (.return_, 1) := by decide +kernel
theorem dX8_layAnew_0 : decode cX8_layAnew 0 = .ok (.aload_n 0, 1) := by decide +kernel
theorem dX8_layAnew_1 : decode cX8_layAnew 1 = .ok (.getfield 49, 3) := by decide +kernel
theorem dX8_layAnew_4 : decode cX8_layAnew 4 = .ok (.aload_n 0, 1) := by decide +kernel
theorem dX8_layAnew_5 : decode cX8_layAnew 5 = .ok (.getfield 42, 3) := by decide +kernel
theorem dX8_layAnew_8 : decode cX8_layAnew 8 = .ok (.invokevirtual 315, 3) := by decide +kernel
theorem dX8_layAnew_11 : decode cX8_layAnew 11 = .ok (.aload_n 0, 1) := by decide +kernel
theorem dX8_layAnew_12 : decode cX8_layAnew 12 = .ok (.getfield 49, 3) := by decide +kernel
theorem dX8_layAnew_15 : decode cX8_layAnew 15 = .ok (.aload_n 0, 1) := by decide +kernel
theorem dX8_layAnew_16 : decode cX8_layAnew 16 = .ok (.getfield 42, 3) := by decide +kernel
theorem dX8_layAnew_19 : decode cX8_layAnew 19 = .ok (.invokevirtual 336, 3) := by decide +kernel
theorem dX8_layAnew_22 : decode cX8_layAnew 22 = .ok (.return_, 1) := by decide +kernel
theorem dX8_carvedStay_0 : decode cX8_carvedStay 0 = .ok (.aload_n 0, 1) := by decide +kernel
theorem dX8_carvedStay_1 : decode cX8_carvedStay 1 = .ok (.getfield 42, 3) := by decide +kernel
theorem dX8_carvedStay_4 : decode cX8_carvedStay 4 = .ok (.getfield 128, 3) := by decide +kernel
theorem dX8_carvedStay_7 : decode cX8_carvedStay 7 = .ok (.istore_n 1, 1) := by decide +kernel
theorem dX8_carvedStay_8 : decode cX8_carvedStay 8 = .ok (.iconst 0, 1) := by decide +kernel
theorem dX8_carvedStay_9 : decode cX8_carvedStay 9 = .ok (.istore_n 2, 1) := by decide +kernel
theorem dX8_carvedStay_10 : decode cX8_carvedStay 10 = .ok (.iload_n 2, 1) := by decide +kernel
theorem dX8_carvedStay_11 : decode cX8_carvedStay 11 = .ok (.aload_n 0, 1) := by decide +kernel
theorem dX8_carvedStay_12 : decode cX8_carvedStay 12 = .ok (.getfield 49, 3) := by decide +kernel
theorem dX8_carvedStay_15 : decode cX8_carvedStay 15 = .ok (.getfield 97, 3) := by decide +kernel
theorem dX8_carvedStay_18 : decode cX8_carvedStay 18 = .ok (.if_icmp .ge 37, 3) := by decide +kernel
theorem dX8_carvedStay_21 : decode cX8_carvedStay 21 = .ok (.iload_n 1, 1) := by decide +kernel
theorem dX8_carvedStay_22 : decode cX8_carvedStay 22 = .ok (.ifCond .le 33, 3) := by decide +kernel
theorem dX8_carvedStay_25 : decode cX8_carvedStay 25 = .ok (.aload_n 0, 1) := by decide +kernel
theorem dX8_carvedStay_26 : decode cX8_carvedStay 26 = .ok (.iload_n 2, 1) := by decide +kernel
theorem dX8_carvedStay_27 : decode cX8_carvedStay 27 = .ok (.invokevirtual 339, 3) := by decide +kernel
theorem dX8_carvedStay_30 : decode cX8_carvedStay 30 = .ok (.ifCond .ne 5, 3) := by decide +kernel
theorem dX8_carvedStay_33 : decode cX8_carvedStay 33 = .ok (.iconst 0, 1) := by decide +kernel
theorem dX8_carvedStay_34 : decode cX8_carvedStay 34 = .ok (.ireturn, 1) := by decide +kernel
theorem dX8_carvedStay_35 : decode cX8_carvedStay 35 = .ok (.iload_n 1, 1) := by decide +kernel
theorem dX8_carvedStay_36 : decode cX8_carvedStay 36 = .ok (.aload_n 0, 1) := by decide +kernel
theorem dX8_carvedStay_37 : decode cX8_carvedStay 37 = .ok (.getfield 42, 3) := by decide +kernel
theorem dX8_carvedStay_40 : decode cX8_carvedStay 40 = .ok (.getfield 186, 3) := by decide +kernel
theorem dX8_carvedStay_43 : decode cX8_carvedStay 43 = .ok (.iload_n 2, 1) := by decide +kernel
theorem dX8_carvedStay_44 : decode cX8_carvedStay 44 = .ok (.invokevirtual 160, 3) := by decide +kernel
theorem dX8_carvedStay_47 : decode cX8_carvedStay 47 = .ok (.isub, 1) := by decide +kernel
theorem dX8_carvedStay_48 : decode cX8_carvedStay 48 = .ok (.istore_n 1, 1) := by decide +kernel
theorem dX8_carvedStay_49 : decode cX8_carvedStay 49 = .ok (.iinc 2 1, 3) := by decide +kernel
theorem dX8_carvedStay_52 : decode cX8_carvedStay 52 = .ok (.goto (-42), 3) := by decide +kernel
theorem dX8_carvedStay_55 : decode cX8_carvedStay 55 = .ok (.iconst 1, 1) := by decide +kernel
theorem dX8_carvedStay_56 : decode cX8_carvedStay 56 = .ok (.ireturn, 1) := by decide +kernel
theorem dX8_sameOnTrial_0 : decode cX8_sameOnTrial 0 = .ok (.iload_n 1, 1) := by decide +kernel
theorem dX8_sameOnTrial_1 : decode cX8_sameOnTrial 1 = .ok (.aload_n 0, 1) := by decide +kernel
theorem dX8_sameOnTrial_2 : decode cX8_sameOnTrial 2 = .ok (.getfield 56, 3) := by decide +kernel
theorem dX8_sameOnTrial_5 : decode cX8_sameOnTrial 5 = .ok (.getfield 97, 3) := by decide +kernel
theorem dX8_sameOnTrial_8 : decode cX8_sameOnTrial 8 = .ok (.if_icmp .ge 72, 3) := by decide +kernel
theorem dX8_sameOnTrial_11 : decode cX8_sameOnTrial 11 = .ok (.aload_n 0, 1) := by decide +kernel
theorem dX8_sameOnTrial_12 : decode cX8_sameOnTrial 12 = .ok (.getfield 49, 3) := by decide +kernel
theorem dX8_sameOnTrial_15 : decode cX8_sameOnTrial 15 = .ok (.getfield 177, 3) := by decide +kernel
theorem dX8_sameOnTrial_18 : decode cX8_sameOnTrial 18 = .ok (.iload_n 1, 1) := by decide +kernel
theorem dX8_sameOnTrial_19 : decode cX8_sameOnTrial 19 = .ok (.invokevirtual 160, 3) := by decide +kernel
theorem dX8_sameOnTrial_22 : decode cX8_sameOnTrial 22 = .ok (.aload_n 0, 1) := by decide +kernel
theorem dX8_sameOnTrial_23 : decode cX8_sameOnTrial 23 = .ok (.getfield 56, 3) := by decide +kernel
theorem dX8_sameOnTrial_26 : decode cX8_sameOnTrial 26 = .ok (.getfield 177, 3) := by decide +kernel
theorem dX8_sameOnTrial_29 : decode cX8_sameOnTrial 29 = .ok (.iload_n 1, 1) := by decide +kernel
theorem dX8_sameOnTrial_30 : decode cX8_sameOnTrial 30 = .ok (.invokevirtual 160, 3) := by decide +kernel
theorem dX8_sameOnTrial_33 : decode cX8_sameOnTrial 33 = .ok (.if_icmp .ne 47, 3) := by decide +kernel
theorem dX8_sameOnTrial_36 : decode cX8_sameOnTrial 36 = .ok (.aload_n 0, 1) := by decide +kernel
theorem dX8_sameOnTrial_37 : decode cX8_sameOnTrial 37 = .ok (.getfield 49, 3) := by decide +kernel
theorem dX8_sameOnTrial_40 : decode cX8_sameOnTrial 40 = .ok (.getfield 189, 3) := by decide +kernel
theorem dX8_sameOnTrial_43 : decode cX8_sameOnTrial 43 = .ok (.iload_n 1, 1) := by decide +kernel
theorem dX8_sameOnTrial_44 : decode cX8_sameOnTrial 44 = .ok (.invokevirtual 160, 3) := by decide +kernel
theorem dX8_sameOnTrial_47 : decode cX8_sameOnTrial 47 = .ok (.aload_n 0, 1) := by decide +kernel
theorem dX8_sameOnTrial_48 : decode cX8_sameOnTrial 48 = .ok (.getfield 56, 3) := by decide +kernel
theorem dX8_sameOnTrial_51 : decode cX8_sameOnTrial 51 = .ok (.getfield 189, 3) := by decide +kernel
theorem dX8_sameOnTrial_54 : decode cX8_sameOnTrial 54 = .ok (.iload_n 1, 1) := by decide +kernel
theorem dX8_sameOnTrial_55 : decode cX8_sameOnTrial 55 = .ok (.invokevirtual 160, 3) := by decide +kernel
theorem dX8_sameOnTrial_58 : decode cX8_sameOnTrial 58 = .ok (.if_icmp .ne 22, 3) := by decide +kernel
theorem dX8_sameOnTrial_61 : decode cX8_sameOnTrial 61 = .ok (.aload_n 0, 1) := by decide +kernel
theorem dX8_sameOnTrial_62 : decode cX8_sameOnTrial 62 = .ok (.getfield 42, 3) := by decide +kernel
theorem dX8_sameOnTrial_65 : decode cX8_sameOnTrial 65 = .ok (.aload_n 0, 1) := by decide +kernel
theorem dX8_sameOnTrial_66 : decode cX8_sameOnTrial 66 = .ok (.getfield 53, 3) := by decide +kernel
theorem dX8_sameOnTrial_69 : decode cX8_sameOnTrial 69 = .ok (.iload_n 1, 1) := by decide +kernel
theorem dX8_sameOnTrial_70 : decode cX8_sameOnTrial 70 = .ok (.invokevirtual 343, 3) := by decide +kernel
theorem dX8_sameOnTrial_73 : decode cX8_sameOnTrial 73 = .ok (.ifCond .eq 7, 3) := by decide +kernel
theorem dX8_sameOnTrial_76 : decode cX8_sameOnTrial 76 = .ok (.iconst 1, 1) := by decide +kernel
theorem dX8_sameOnTrial_77 : decode cX8_sameOnTrial 77 = .ok (.goto 4, 3) := by decide +kernel
theorem dX8_sameOnTrial_80 : decode cX8_sameOnTrial 80 = .ok (.iconst 0, 1) := by decide +kernel
theorem dX8_sameOnTrial_81 : decode cX8_sameOnTrial 81 = .ok (.ireturn, 1) := by decide +kernel
theorem dX8_takeInputWords_0 : decode cX8_takeInputWords 0 = .ok (.aload_n 0, 1) := by decide +kernel
theorem dX8_takeInputWords_1 : decode cX8_takeInputWords 1 = .ok (.getfield 53, 3) := by decide +kernel
theorem dX8_takeInputWords_4 : decode cX8_takeInputWords 4 = .ok (.iload_n 1, 1) := by decide +kernel
theorem dX8_takeInputWords_5 : decode cX8_takeInputWords 5 = .ok (.invokevirtual 347, 3) := by decide +kernel
theorem dX8_takeInputWords_8 : decode cX8_takeInputWords 8 = .ok (.iconst 0, 1) := by decide +kernel
theorem dX8_takeInputWords_9 : decode cX8_takeInputWords 9 = .ok (.istore_n 2, 1) := by decide +kernel
theorem dX8_takeInputWords_10 : decode cX8_takeInputWords 10 = .ok (.aload_n 0, 1) := by decide +kernel
theorem dX8_takeInputWords_11 : decode cX8_takeInputWords 11 = .ok (.getfield 26, 3) := by decide +kernel
theorem dX8_takeInputWords_14 : decode cX8_takeInputWords 14 = .ok (.invokevirtual 350, 3) := by decide +kernel
theorem dX8_takeInputWords_17 : decode cX8_takeInputWords 17 = .ok (.iconst 0, 1) := by decide +kernel
theorem dX8_takeInputWords_18 : decode cX8_takeInputWords 18 = .ok (.istore_n 3, 1) := by decide +kernel
theorem dX8_takeInputWords_19 : decode cX8_takeInputWords 19 = .ok (.iload_n 3, 1) := by decide +kernel
theorem dX8_takeInputWords_20 : decode cX8_takeInputWords 20 = .ok (.sipush 500, 3) := by decide +kernel
theorem dX8_takeInputWords_23 : decode cX8_takeInputWords 23 = .ok (.if_icmp .ge 86, 3) := by decide +kernel
theorem dX8_takeInputWords_26 : decode cX8_takeInputWords 26 = .ok (.aload_n 0, 1) := by decide +kernel
theorem dX8_takeInputWords_27 : decode cX8_takeInputWords 27 = .ok (.getfield 26, 3) := by decide +kernel
theorem dX8_takeInputWords_30 : decode cX8_takeInputWords 30 = .ok (.getfield 353, 3) := by decide +kernel
theorem dX8_takeInputWords_33 : decode cX8_takeInputWords 33 = .ok (.ifCond .eq 76, 3) := by decide +kernel
theorem dX8_takeInputWords_36 : decode cX8_takeInputWords 36 = .ok (.aload_n 0, 1) := by decide +kernel
theorem dX8_takeInputWords_37 : decode cX8_takeInputWords 37 = .ok (.getfield 26, 3) := by decide +kernel
theorem dX8_takeInputWords_40 : decode cX8_takeInputWords 40 = .ok (.invokevirtual 356, 3) := by decide +kernel
theorem dX8_takeInputWords_43 : decode cX8_takeInputWords 43 = .ok (.ifCond .eq 20, 3) := by decide +kernel
theorem dX8_takeInputWords_46 : decode cX8_takeInputWords 46 = .ok (.aload_n 0, 1) := by decide +kernel
theorem dX8_takeInputWords_47 : decode cX8_takeInputWords 47 = .ok (.getfield 26, 3) := by decide +kernel
theorem dX8_takeInputWords_50 : decode cX8_takeInputWords 50 = .ok (.getfield 359, 3) := by decide +kernel
theorem dX8_takeInputWords_53 : decode cX8_takeInputWords 53 = .ok (.aload_n 0, 1) := by decide +kernel
theorem dX8_takeInputWords_54 : decode cX8_takeInputWords 54 = .ok (.getfield 42, 3) := by decide +kernel
theorem dX8_takeInputWords_57 : decode cX8_takeInputWords 57 = .ok (.getfield 106, 3) := by decide +kernel
theorem dX8_takeInputWords_60 : decode cX8_takeInputWords 60 = .ok (.if_icmp .le 5, 3) := by decide +kernel
theorem dX8_takeInputWords_63 : decode cX8_takeInputWords 63 = .ok (.iconst 0, 1) := by decide +kernel
theorem dX8_takeInputWords_64 : decode cX8_takeInputWords 64 = .ok (.ireturn, 1) := by decide +kernel
theorem dX8_takeInputWords_65 : decode cX8_takeInputWords 65 = .ok (.aload_n 0, 1) := by decide +kernel
theorem dX8_takeInputWords_66 : decode cX8_takeInputWords 66 = .ok (.getfield 53, 3) := by decide +kernel
theorem dX8_takeInputWords_69 : decode cX8_takeInputWords 69 = .ok (.aload_n 0, 1) := by decide +kernel
theorem dX8_takeInputWords_70 : decode cX8_takeInputWords 70 = .ok (.getfield 14, 3) := by decide +kernel
theorem dX8_takeInputWords_73 : decode cX8_takeInputWords 73 = .ok (.getfield 312, 3) := by decide +kernel
theorem dX8_takeInputWords_76 : decode cX8_takeInputWords 76 = .ok (.aload_n 0, 1) := by decide +kernel
theorem dX8_takeInputWords_77 : decode cX8_takeInputWords 77 = .ok (.getfield 26, 3) := by decide +kernel
theorem dX8_takeInputWords_80 : decode cX8_takeInputWords 80 = .ok (.getfield 360, 3) := by decide +kernel
theorem dX8_takeInputWords_83 : decode cX8_takeInputWords 83 = .ok (.aload_n 0, 1) := by decide +kernel
theorem dX8_takeInputWords_84 : decode cX8_takeInputWords 84 = .ok (.getfield 26, 3) := by decide +kernel
theorem dX8_takeInputWords_87 : decode cX8_takeInputWords 87 = .ok (.getfield 359, 3) := by decide +kernel
theorem dX8_takeInputWords_90 : decode cX8_takeInputWords 90 = .ok (.invokevirtual 363, 3) := by decide +kernel
theorem dX8_takeInputWords_93 : decode cX8_takeInputWords 93 = .ok (.iinc 2 1, 3) := by decide +kernel
theorem dX8_takeInputWords_96 : decode cX8_takeInputWords 96 = .ok (.aload_n 0, 1) := by decide +kernel
theorem dX8_takeInputWords_97 : decode cX8_takeInputWords 97 = .ok (.getfield 26, 3) := by decide +kernel
theorem dX8_takeInputWords_100 : decode cX8_takeInputWords 100 = .ok (.invokevirtual 367, 3) := by decide +kernel
theorem dX8_takeInputWords_103 : decode cX8_takeInputWords 103 = .ok (.iinc 3 1, 3) := by decide +kernel
theorem dX8_takeInputWords_106 : decode cX8_takeInputWords 106 = .ok (.goto (-87), 3) := by decide +kernel
theorem dX8_takeInputWords_109 : decode cX8_takeInputWords 109 = .ok (.iload_n 2, 1) := by decide +kernel
theorem dX8_takeInputWords_110 : decode cX8_takeInputWords 110 = .ok (.ireturn, 1) := by decide +kernel
theorem dX8_strokesOfWord_0 : decode cX8_strokesOfWord 0 = .ok (.iload_n 1, 1) := by decide +kernel
theorem dX8_strokesOfWord_1 : decode cX8_strokesOfWord 1 = .ok (.aload_n 0, 1) := by decide +kernel
theorem dX8_strokesOfWord_2 : decode cX8_strokesOfWord 2 = .ok (.getfield 49, 3) := by decide +kernel
theorem dX8_strokesOfWord_5 : decode cX8_strokesOfWord 5 = .ok (.getfield 97, 3) := by decide +kernel
theorem dX8_strokesOfWord_8 : decode cX8_strokesOfWord 8 = .ok (.if_icmp .lt 5, 3) := by decide +kernel
theorem dX8_strokesOfWord_11 : decode cX8_strokesOfWord 11 = .ok (.iconst 0, 1) := by decide +kernel
theorem dX8_strokesOfWord_12 : decode cX8_strokesOfWord 12 = .ok (.ireturn, 1) := by decide +kernel
theorem dX8_strokesOfWord_13 : decode cX8_strokesOfWord 13 = .ok (.aload_n 0, 1) := by decide +kernel
theorem dX8_strokesOfWord_14 : decode cX8_strokesOfWord 14 = .ok (.getfield 42, 3) := by decide +kernel
theorem dX8_strokesOfWord_17 : decode cX8_strokesOfWord 17 = .ok (.iload_n 1, 1) := by decide +kernel
theorem dX8_strokesOfWord_18 : decode cX8_strokesOfWord 18 = .ok (.invokevirtual 370, 3) := by decide +kernel
theorem dX8_strokesOfWord_21 : decode cX8_strokesOfWord 21 = .ok (.istore_n 2, 1) := by decide +kernel
theorem dX8_strokesOfWord_22 : decode cX8_strokesOfWord 22 = .ok (.aload_n 0, 1) := by decide +kernel
theorem dX8_strokesOfWord_23 : decode cX8_strokesOfWord 23 = .ok (.getfield 49, 3) := by decide +kernel
theorem dX8_strokesOfWord_26 : decode cX8_strokesOfWord 26 = .ok (.iload_n 2, 1) := by decide +kernel
theorem dX8_strokesOfWord_27 : decode cX8_strokesOfWord 27 = .ok (.iload_n 2, 1) := by decide +kernel
theorem dX8_strokesOfWord_28 : decode cX8_strokesOfWord 28 = .ok (.aload_n 0, 1) := by decide +kernel
theorem dX8_strokesOfWord_29 : decode cX8_strokesOfWord 29 = .ok (.getfield 42, 3) := by decide +kernel
theorem dX8_strokesOfWord_32 : decode cX8_strokesOfWord 32 = .ok (.getfield 186, 3) := by decide +kernel
theorem dX8_strokesOfWord_35 : decode cX8_strokesOfWord 35 = .ok (.iload_n 1, 1) := by decide +kernel
theorem dX8_strokesOfWord_36 : decode cX8_strokesOfWord 36 = .ok (.invokevirtual 160, 3) := by decide +kernel
theorem dX8_strokesOfWord_39 : decode cX8_strokesOfWord 39 = .ok (.iadd, 1) := by decide +kernel
theorem dX8_strokesOfWord_40 : decode cX8_strokesOfWord 40 = .ok (.invokevirtual 219, 3) := by decide +kernel
theorem dX8_strokesOfWord_43 : decode cX8_strokesOfWord 43 = .ok (.ireturn, 1) := by decide +kernel
theorem dX8_carvedOfWord_0 : decode cX8_carvedOfWord 0 = .ok (.aload_n 0, 1) := by decide +kernel
theorem dX8_carvedOfWord_1 : decode cX8_carvedOfWord 1 = .ok (.getfield 42, 3) := by decide +kernel
theorem dX8_carvedOfWord_4 : decode cX8_carvedOfWord 4 = .ok (.getfield 128, 3) := by decide +kernel
theorem dX8_carvedOfWord_7 : decode cX8_carvedOfWord 7 = .ok (.aload_n 0, 1) := by decide +kernel
theorem dX8_carvedOfWord_8 : decode cX8_carvedOfWord 8 = .ok (.getfield 42, 3) := by decide +kernel
theorem dX8_carvedOfWord_11 : decode cX8_carvedOfWord 11 = .ok (.iload_n 1, 1) := by decide +kernel
theorem dX8_carvedOfWord_12 : decode cX8_carvedOfWord 12 = .ok (.invokevirtual 370, 3) := by decide +kernel
theorem dX8_carvedOfWord_15 : decode cX8_carvedOfWord 15 = .ok (.isub, 1) := by decide +kernel
theorem dX8_carvedOfWord_16 : decode cX8_carvedOfWord 16 = .ok (.istore_n 2, 1) := by decide +kernel
theorem dX8_carvedOfWord_17 : decode cX8_carvedOfWord 17 = .ok (.iconst 0, 1) := by decide +kernel
theorem dX8_carvedOfWord_18 : decode cX8_carvedOfWord 18 = .ok (.iload_n 2, 1) := by decide +kernel
theorem dX8_carvedOfWord_19 : decode cX8_carvedOfWord 19 = .ok (.aload_n 0, 1) := by decide +kernel
theorem dX8_carvedOfWord_20 : decode cX8_carvedOfWord 20 = .ok (.getfield 42, 3) := by decide +kernel
theorem dX8_carvedOfWord_23 : decode cX8_carvedOfWord 23 = .ok (.getfield 186, 3) := by decide +kernel
theorem dX8_carvedOfWord_26 : decode cX8_carvedOfWord 26 = .ok (.iload_n 1, 1) := by decide +kernel
theorem dX8_carvedOfWord_27 : decode cX8_carvedOfWord 27 = .ok (.invokevirtual 160, 3) := by decide +kernel
theorem dX8_carvedOfWord_30 : decode cX8_carvedOfWord 30 = .ok (.invokestatic 165, 3) := by decide +kernel
theorem dX8_carvedOfWord_33 : decode cX8_carvedOfWord 33 = .ok (.invokestatic 171, 3) := by decide +kernel
theorem dX8_carvedOfWord_36 : decode cX8_carvedOfWord 36 = .ok (.ireturn, 1) := by decide +kernel
theorem dX8_letterBeside_0 : decode cX8_letterBeside 0 = .ok (.aload_n 0, 1) := by decide +kernel
theorem dX8_letterBeside_1 : decode cX8_letterBeside 1 = .ok (.getfield 49, 3) := by decide +kernel
theorem dX8_letterBeside_4 : decode cX8_letterBeside 4 = .ok (.aload_n 0, 1) := by decide +kernel
theorem dX8_letterBeside_5 : decode cX8_letterBeside 5 = .ok (.getfield 42, 3) := by decide +kernel
theorem dX8_letterBeside_8 : decode cX8_letterBeside 8 = .ok (.iload_n 1, 1) := by decide +kernel
theorem dX8_letterBeside_9 : decode cX8_letterBeside 9 = .ok (.iconst 1, 1) := by decide +kernel
theorem dX8_letterBeside_10 : decode cX8_letterBeside 10 = .ok (.isub, 1) := by decide +kernel
theorem dX8_letterBeside_11 : decode cX8_letterBeside 11 = .ok (.iload_n 2, 1) := by decide +kernel
theorem dX8_letterBeside_12 : decode cX8_letterBeside 12 = .ok (.invokevirtual 212, 3) := by decide +kernel
theorem dX8_letterBeside_15 : decode cX8_letterBeside 15 = .ok (.iconst (-1), 1) := by decide +kernel
theorem dX8_letterBeside_16 : decode cX8_letterBeside 16 = .ok (.if_icmp .ne 60, 3) := by decide +kernel
theorem dX8_letterBeside_19 : decode cX8_letterBeside 19 = .ok (.aload_n 0, 1) := by decide +kernel
theorem dX8_letterBeside_20 : decode cX8_letterBeside 20 = .ok (.getfield 49, 3) := by decide +kernel
theorem dX8_letterBeside_23 : decode cX8_letterBeside 23 = .ok (.aload_n 0, 1) := by decide +kernel
theorem dX8_letterBeside_24 : decode cX8_letterBeside 24 = .ok (.getfield 42, 3) := by decide +kernel
theorem dX8_letterBeside_27 : decode cX8_letterBeside 27 = .ok (.iload_n 1, 1) := by decide +kernel
theorem dX8_letterBeside_28 : decode cX8_letterBeside 28 = .ok (.iconst 1, 1) := by decide +kernel
theorem dX8_letterBeside_29 : decode cX8_letterBeside 29 = .ok (.iadd, 1) := by decide +kernel
theorem dX8_letterBeside_30 : decode cX8_letterBeside 30 = .ok (.iload_n 2, 1) := by decide +kernel
theorem dX8_letterBeside_31 : decode cX8_letterBeside 31 = .ok (.invokevirtual 212, 3) := by decide +kernel
theorem dX8_letterBeside_34 : decode cX8_letterBeside 34 = .ok (.iconst (-1), 1) := by decide +kernel
theorem dX8_letterBeside_35 : decode cX8_letterBeside 35 = .ok (.if_icmp .ne 41, 3) := by decide +kernel
theorem dX8_letterBeside_38 : decode cX8_letterBeside 38 = .ok (.aload_n 0, 1) := by decide +kernel
theorem dX8_letterBeside_39 : decode cX8_letterBeside 39 = .ok (.getfield 49, 3) := by decide +kernel
theorem dX8_letterBeside_42 : decode cX8_letterBeside 42 = .ok (.aload_n 0, 1) := by decide +kernel
theorem dX8_letterBeside_43 : decode cX8_letterBeside 43 = .ok (.getfield 42, 3) := by decide +kernel
theorem dX8_letterBeside_46 : decode cX8_letterBeside 46 = .ok (.iload_n 1, 1) := by decide +kernel
theorem dX8_letterBeside_47 : decode cX8_letterBeside 47 = .ok (.iload_n 2, 1) := by decide +kernel
theorem dX8_letterBeside_48 : decode cX8_letterBeside 48 = .ok (.iconst 1, 1) := by decide +kernel
theorem dX8_letterBeside_49 : decode cX8_letterBeside 49 = .ok (.isub, 1) := by decide +kernel
theorem dX8_letterBeside_50 : decode cX8_letterBeside 50 = .ok (.invokevirtual 212, 3) := by decide +kernel
theorem dX8_letterBeside_53 : decode cX8_letterBeside 53 = .ok (.iconst (-1), 1) := by decide +kernel
theorem dX8_letterBeside_54 : decode cX8_letterBeside 54 = .ok (.if_icmp .ne 22, 3) := by decide +kernel
theorem dX8_letterBeside_57 : decode cX8_letterBeside 57 = .ok (.aload_n 0, 1) := by decide +kernel
theorem dX8_letterBeside_58 : decode cX8_letterBeside 58 = .ok (.getfield 49, 3) := by decide +kernel
theorem dX8_letterBeside_61 : decode cX8_letterBeside 61 = .ok (.aload_n 0, 1) := by decide +kernel
theorem dX8_letterBeside_62 : decode cX8_letterBeside 62 = .ok (.getfield 42, 3) := by decide +kernel
theorem dX8_letterBeside_65 : decode cX8_letterBeside 65 = .ok (.iload_n 1, 1) := by decide +kernel
theorem dX8_letterBeside_66 : decode cX8_letterBeside 66 = .ok (.iload_n 2, 1) := by decide +kernel
theorem dX8_letterBeside_67 : decode cX8_letterBeside 67 = .ok (.iconst 1, 1) := by decide +kernel
theorem dX8_letterBeside_68 : decode cX8_letterBeside 68 = .ok (.iadd, 1) := by decide +kernel
theorem dX8_letterBeside_69 : decode cX8_letterBeside 69 = .ok (.invokevirtual 212, 3) := by decide +kernel
theorem dX8_letterBeside_72 : decode cX8_letterBeside 72 = .ok (.iconst (-1), 1) := by decide +kernel
theorem dX8_letterBeside_73 : decode cX8_letterBeside 73 = .ok (.if_icmp .eq 7, 3) := by decide +kernel
theorem dX8_letterBeside_76 : decode cX8_letterBeside 76 = .ok (.iconst 1, 1) := by decide +kernel
theorem dX8_letterBeside_77 : decode cX8_letterBeside 77 = .ok (.goto 4, 3) := by decide +kernel
theorem dX8_letterBeside_80 : decode cX8_letterBeside 80 = .ok (.iconst 0, 1) := by decide +kernel
theorem dX8_letterBeside_81 : decode cX8_letterBeside 81 = .ok (.ireturn, 1) := by decide +kernel
theorem dX8_signOn_0 : decode cX8_signOn 0 = .ok (.aload_n 0, 1) := by decide +kernel
theorem dX8_signOn_1 : decode cX8_signOn 1 = .ok (.getfield 49, 3) := by decide +kernel
theorem dX8_signOn_4 : decode cX8_signOn 4 = .ok (.aload_n 0, 1) := by decide +kernel
theorem dX8_signOn_5 : decode cX8_signOn 5 = .ok (.getfield 42, 3) := by decide +kernel
theorem dX8_signOn_8 : decode cX8_signOn 8 = .ok (.iload_n 1, 1) := by decide +kernel
theorem dX8_signOn_9 : decode cX8_signOn 9 = .ok (.iload_n 2, 1) := by decide +kernel
theorem dX8_signOn_10 : decode cX8_signOn 10 = .ok (.invokevirtual 212, 3) := by decide +kernel
theorem dX8_signOn_13 : decode cX8_signOn 13 = .ok (.istore_n 3, 1) := by decide +kernel
theorem dX8_signOn_14 : decode cX8_signOn 14 = .ok (.iload_n 3, 1) := by decide +kernel
theorem dX8_signOn_15 : decode cX8_signOn 15 = .ok (.iconst (-1), 1) := by decide +kernel
theorem dX8_signOn_16 : decode cX8_signOn 16 = .ok (.if_icmp .ne 6, 3) := by decide +kernel
theorem dX8_signOn_19 : decode cX8_signOn 19 = .ok (.bipush 46, 2) := by decide +kernel
theorem dX8_signOn_21 : decode cX8_signOn 21 = .ok (.ireturn, 1) := by decide +kernel
theorem dX8_signOn_22 : decode cX8_signOn 22 = .ok (.iload_n 1, 1) := by decide +kernel
theorem dX8_signOn_23 : decode cX8_signOn 23 = .ok (.aload_n 0, 1) := by decide +kernel
theorem dX8_signOn_24 : decode cX8_signOn 24 = .ok (.getfield 49, 3) := by decide +kernel
theorem dX8_signOn_27 : decode cX8_signOn 27 = .ok (.getfield 189, 3) := by decide +kernel
theorem dX8_signOn_30 : decode cX8_signOn 30 = .ok (.iload_n 3, 1) := by decide +kernel
theorem dX8_signOn_31 : decode cX8_signOn 31 = .ok (.invokevirtual 160, 3) := by decide +kernel
theorem dX8_signOn_34 : decode cX8_signOn 34 = .ok (.isub, 1) := by decide +kernel
theorem dX8_signOn_35 : decode cX8_signOn 35 = .ok (.istore 4, 2) := by decide +kernel
theorem dX8_signOn_37 : decode cX8_signOn 37 = .ok (.aload_n 0, 1) := by decide +kernel
theorem dX8_signOn_38 : decode cX8_signOn 38 = .ok (.getfield 42, 3) := by decide +kernel
theorem dX8_signOn_41 : decode cX8_signOn 41 = .ok (.iload_n 3, 1) := by decide +kernel
theorem dX8_signOn_42 : decode cX8_signOn 42 = .ok (.iload 4, 2) := by decide +kernel
theorem dX8_signOn_44 : decode cX8_signOn 44 = .ok (.invokevirtual 201, 3) := by decide +kernel
theorem dX8_signOn_47 : decode cX8_signOn 47 = .ok (.istore 5, 2) := by decide +kernel
theorem dX8_signOn_49 : decode cX8_signOn 49 = .ok (.iload 4, 2) := by decide +kernel
theorem dX8_signOn_51 : decode cX8_signOn 51 = .ok (.aload_n 0, 1) := by decide +kernel
theorem dX8_signOn_52 : decode cX8_signOn 52 = .ok (.iload_n 3, 1) := by decide +kernel
theorem dX8_signOn_53 : decode cX8_signOn 53 = .ok (.invokevirtual 195, 3) := by decide +kernel
theorem dX8_signOn_56 : decode cX8_signOn 56 = .ok (.if_icmp .ge 21, 3) := by decide +kernel
theorem dX8_signOn_59 : decode cX8_signOn 59 = .ok (.iload 5, 2) := by decide +kernel
theorem dX8_signOn_61 : decode cX8_signOn 61 = .ok (.bipush 97, 2) := by decide +kernel
theorem dX8_signOn_63 : decode cX8_signOn 63 = .ok (.if_icmp .lt 14, 3) := by decide +kernel
theorem dX8_signOn_66 : decode cX8_signOn 66 = .ok (.iload 5, 2) := by decide +kernel
theorem dX8_signOn_68 : decode cX8_signOn 68 = .ok (.bipush 122, 2) := by decide +kernel
theorem dX8_signOn_70 : decode cX8_signOn 70 = .ok (.if_icmp .gt 7, 3) := by decide +kernel
theorem dX8_signOn_73 : decode cX8_signOn 73 = .ok (.iconst 1, 1) := by decide +kernel
theorem dX8_signOn_74 : decode cX8_signOn 74 = .ok (.goto 4, 3) := by decide +kernel
theorem dX8_signOn_77 : decode cX8_signOn 77 = .ok (.iconst 0, 1) := by decide +kernel
theorem dX8_signOn_78 : decode cX8_signOn 78 = .ok (.istore 6, 2) := by decide +kernel
theorem dX8_signOn_80 : decode cX8_signOn 80 = .ok (.iload 6, 2) := by decide +kernel
theorem dX8_signOn_82 : decode cX8_signOn 82 = .ok (.ifCond .eq 14, 3) := by decide +kernel
theorem dX8_signOn_85 : decode cX8_signOn 85 = .ok (.iload 5, 2) := by decide +kernel
theorem dX8_signOn_87 : decode cX8_signOn 87 = .ok (.bipush 97, 2) := by decide +kernel
theorem dX8_signOn_89 : decode cX8_signOn 89 = .ok (.isub, 1) := by decide +kernel
theorem dX8_signOn_90 : decode cX8_signOn 90 = .ok (.bipush 65, 2) := by decide +kernel
theorem dX8_signOn_92 : decode cX8_signOn 92 = .ok (.iadd, 1) := by decide +kernel
theorem dX8_signOn_93 : decode cX8_signOn 93 = .ok (.goto 5, 3) := by decide +kernel
theorem dX8_signOn_96 : decode cX8_signOn 96 = .ok (.iload 5, 2) := by decide +kernel
theorem dX8_signOn_98 : decode cX8_signOn 98 = .ok (.ireturn, 1) := by decide +kernel
theorem dX8_writeWord_0 : decode cX8_writeWord 0 = .ok (.iload_n 1, 1) := by decide +kernel
theorem dX8_writeWord_1 : decode cX8_writeWord 1 = .ok (.aload_n 0, 1) := by decide +kernel
theorem dX8_writeWord_2 : decode cX8_writeWord 2 = .ok (.getfield 49, 3) := by decide +kernel
theorem dX8_writeWord_5 : decode cX8_writeWord 5 = .ok (.getfield 97, 3) := by decide +kernel
theorem dX8_writeWord_8 : decode cX8_writeWord 8 = .ok (.if_icmp .lt 7, 3) := by decide +kernel
theorem dX8_writeWord_11 : decode cX8_writeWord 11 = .ok (.iconst 1, 1) := by decide +kernel
theorem dX8_writeWord_12 : decode cX8_writeWord 12 = .ok (.goto 4, 3) := by decide +kernel
theorem dX8_writeWord_15 : decode cX8_writeWord 15 = .ok (.iconst 0, 1) := by decide +kernel
theorem dX8_writeWord_16 : decode cX8_writeWord 16 = .ok (.istore_n 2, 1) := by decide +kernel
theorem dX8_writeWord_17 : decode cX8_writeWord 17 = .ok (.iload_n 2, 1) := by decide +kernel
theorem dX8_writeWord_18 : decode cX8_writeWord 18 = .ok (.ifCond .eq 12, 3) := by decide +kernel
theorem dX8_writeWord_21 : decode cX8_writeWord 21 = .ok (.aload_n 0, 1) := by decide +kernel
theorem dX8_writeWord_22 : decode cX8_writeWord 22 = .ok (.getfield 18, 3) := by decide +kernel
theorem dX8_writeWord_25 : decode cX8_writeWord 25 = .ok (.bipush 91, 2) := by decide +kernel
theorem dX8_writeWord_27 : decode cX8_writeWord 27 = .ok (.invokevirtual 303, 3) := by decide +kernel
theorem dX8_writeWord_30 : decode cX8_writeWord 30 = .ok (.iconst 0, 1) := by decide +kernel
theorem dX8_writeWord_31 : decode cX8_writeWord 31 = .ok (.istore_n 3, 1) := by decide +kernel
theorem dX8_writeWord_32 : decode cX8_writeWord 32 = .ok (.iload_n 3, 1) := by decide +kernel
theorem dX8_writeWord_33 : decode cX8_writeWord 33 = .ok (.aload_n 0, 1) := by decide +kernel
theorem dX8_writeWord_34 : decode cX8_writeWord 34 = .ok (.getfield 42, 3) := by decide +kernel
theorem dX8_writeWord_37 : decode cX8_writeWord 37 = .ok (.getfield 186, 3) := by decide +kernel
theorem dX8_writeWord_40 : decode cX8_writeWord 40 = .ok (.iload_n 1, 1) := by decide +kernel
theorem dX8_writeWord_41 : decode cX8_writeWord 41 = .ok (.invokevirtual 160, 3) := by decide +kernel
theorem dX8_writeWord_44 : decode cX8_writeWord 44 = .ok (.if_icmp .ge 25, 3) := by decide +kernel
theorem dX8_writeWord_47 : decode cX8_writeWord 47 = .ok (.aload_n 0, 1) := by decide +kernel
theorem dX8_writeWord_48 : decode cX8_writeWord 48 = .ok (.getfield 18, 3) := by decide +kernel
theorem dX8_writeWord_51 : decode cX8_writeWord 51 = .ok (.aload_n 0, 1) := by decide +kernel
theorem dX8_writeWord_52 : decode cX8_writeWord 52 = .ok (.getfield 42, 3) := by decide +kernel
theorem dX8_writeWord_55 : decode cX8_writeWord 55 = .ok (.iload_n 1, 1) := by decide +kernel
theorem dX8_writeWord_56 : decode cX8_writeWord 56 = .ok (.iload_n 3, 1) := by decide +kernel
theorem dX8_writeWord_57 : decode cX8_writeWord 57 = .ok (.invokevirtual 201, 3) := by decide +kernel
theorem dX8_writeWord_60 : decode cX8_writeWord 60 = .ok (.invokevirtual 303, 3) := by decide +kernel
theorem dX8_writeWord_63 : decode cX8_writeWord 63 = .ok (.iinc 3 1, 3) := by decide +kernel
theorem dX8_writeWord_66 : decode cX8_writeWord 66 = .ok (.goto (-34), 3) := by decide +kernel
theorem dX8_writeWord_69 : decode cX8_writeWord 69 = .ok (.iload_n 2, 1) := by decide +kernel
theorem dX8_writeWord_70 : decode cX8_writeWord 70 = .ok (.ifCond .eq 12, 3) := by decide +kernel
theorem dX8_writeWord_73 : decode cX8_writeWord 73 = .ok (.aload_n 0, 1) := by decide +kernel
theorem dX8_writeWord_74 : decode cX8_writeWord 74 = .ok (.getfield 18, 3) := by decide +kernel
theorem dX8_writeWord_77 : decode cX8_writeWord 77 = .ok (.bipush 93, 2) := by decide +kernel
theorem dX8_writeWord_79 : decode cX8_writeWord 79 = .ok (.invokevirtual 303, 3) := by decide +kernel
theorem dX8_writeWord_82 : decode cX8_writeWord 82 = .ok (.return_, 1) := by decide +kernel
theorem dX9_thrown_0 : decode cX9_thrown 0 = .ok (.aload_n 0, 1) := by decide +kernel
theorem dX9_thrown_1 : decode cX9_thrown 1 = .ok (.getfield 3, 3) := by decide +kernel
theorem dX9_thrown_4 : decode cX9_thrown 4 = .ok (.ireturn, 1) := by decide +kernel
theorem dX9_in_0 : decode cX9_in 0 = .ok (.lload_n 0, 1) := by decide +kernel
theorem dX9_in_1 : decode cX9_in 1 = .ok (.lload_n 2, 1) := by decide +kernel
theorem dX9_in_2 : decode cX9_in 2 = .ok (.lcmp, 1) := by decide +kernel
theorem dX9_in_3 : decode cX9_in 3 = .ok (.ifCond .lt 14, 3) := by decide +kernel
theorem dX9_in_6 : decode cX9_in 6 = .ok (.lload_n 0, 1) := by decide +kernel
theorem dX9_in_7 : decode cX9_in 7 = .ok (.lload 4, 2) := by decide +kernel
theorem dX9_in_9 : decode cX9_in 9 = .ok (.lcmp, 1) := by decide +kernel
theorem dX9_in_10 : decode cX9_in 10 = .ok (.ifCond .gt 7, 3) := by decide +kernel
theorem dX9_in_13 : decode cX9_in 13 = .ok (.iconst 1, 1) := by decide +kernel
theorem dX9_in_14 : decode cX9_in 14 = .ok (.goto 4, 3) := by decide +kernel
theorem dX9_in_17 : decode cX9_in 17 = .ok (.iconst 0, 1) := by decide +kernel
theorem dX9_in_18 : decode cX9_in 18 = .ok (.ireturn, 1) := by decide +kernel
theorem dX9_passes3_0 : decode cX9_passes3 0 = .ok (.aload_n 0, 1) := by decide +kernel
theorem dX9_passes3_1 : decode cX9_passes3 1 = .ok (.iload_n 1, 1) := by decide +kernel
theorem dX9_passes3_2 : decode cX9_passes3 2 = .ok (.ifCond .ne 7, 3) := by decide +kernel
theorem dX9_passes3_5 : decode cX9_passes3 5 = .ok (.iconst 1, 1) := by decide +kernel
theorem dX9_passes3_6 : decode cX9_passes3 6 = .ok (.goto 20, 3) := by decide +kernel
theorem dX9_passes3_9 : decode cX9_passes3 9 = .ok (.iload_n 2, 1) := by decide +kernel
theorem dX9_passes3_10 : decode cX9_passes3 10 = .ok (.ifCond .ne 7, 3) := by decide +kernel
theorem dX9_passes3_13 : decode cX9_passes3 13 = .ok (.iconst 2, 1) := by decide +kernel
theorem dX9_passes3_14 : decode cX9_passes3 14 = .ok (.goto 12, 3) := by decide +kernel
theorem dX9_passes3_17 : decode cX9_passes3 17 = .ok (.iload_n 3, 1) := by decide +kernel
theorem dX9_passes3_18 : decode cX9_passes3 18 = .ok (.ifCond .ne 7, 3) := by decide +kernel
theorem dX9_passes3_21 : decode cX9_passes3 21 = .ok (.iconst 3, 1) := by decide +kernel
theorem dX9_passes3_22 : decode cX9_passes3 22 = .ok (.goto 4, 3) := by decide +kernel
theorem dX9_passes3_25 : decode cX9_passes3 25 = .ok (.iconst 0, 1) := by decide +kernel
theorem dX9_passes3_26 : decode cX9_passes3 26 = .ok (.putfield 3, 3) := by decide +kernel
theorem dX9_passes3_29 : decode cX9_passes3 29 = .ok (.aload_n 0, 1) := by decide +kernel
theorem dX9_passes3_30 : decode cX9_passes3 30 = .ok (.getfield 3, 3) := by decide +kernel
theorem dX9_passes3_33 : decode cX9_passes3 33 = .ok (.ifCond .ne 7, 3) := by decide +kernel
theorem dX9_passes3_36 : decode cX9_passes3 36 = .ok (.iconst 1, 1) := by decide +kernel
theorem dX9_passes3_37 : decode cX9_passes3 37 = .ok (.goto 4, 3) := by decide +kernel
theorem dX9_passes3_40 : decode cX9_passes3 40 = .ok (.iconst 0, 1) := by decide +kernel
theorem dX9_passes3_41 : decode cX9_passes3 41 = .ok (.ireturn, 1) := by decide +kernel
theorem dX9_passes2_0 : decode cX9_passes2 0 = .ok (.aload_n 0, 1) := by decide +kernel
theorem dX9_passes2_1 : decode cX9_passes2 1 = .ok (.iload_n 1, 1) := by decide +kernel
theorem dX9_passes2_2 : decode cX9_passes2 2 = .ok (.iload_n 2, 1) := by decide +kernel
theorem dX9_passes2_3 : decode cX9_passes2 3 = .ok (.iconst 1, 1) := by decide +kernel
theorem dX9_passes2_4 : decode cX9_passes2 4 = .ok (.invokevirtual 7, 3) := by decide +kernel
theorem dX9_passes2_7 : decode cX9_passes2 7 = .ok (.ireturn, 1) := by decide +kernel
theorem dX9_passes_0 : decode cX9_passes 0 = .ok (.aload_n 0, 1) := by decide +kernel
theorem dX9_passes_1 : decode cX9_passes 1 = .ok (.iload_n 1, 1) := by decide +kernel
theorem dX9_passes_2 : decode cX9_passes 2 = .ok (.iconst 1, 1) := by decide +kernel
theorem dX9_passes_3 : decode cX9_passes 3 = .ok (.iconst 1, 1) := by decide +kernel
theorem dX9_passes_4 : decode cX9_passes 4 = .ok (.invokevirtual 7, 3) := by decide +kernel
theorem dX9_passes_7 : decode cX9_passes 7 = .ok (.ireturn, 1) := by decide +kernel
theorem dX9_init_0 : decode cX9_init 0 = .ok (.aload_n 0, 1) := by decide +kernel
theorem dX9_init_1 : decode cX9_init 1 = .ok (.invokespecial 11, 3) := by decide +kernel
theorem dX9_init_4 : decode cX9_init 4 = .ok (.aload_n 0, 1) := by decide +kernel
theorem dX9_init_5 : decode cX9_init 5 = .ok (.sipush 1099, 3) := by decide +kernel
theorem dX9_init_8 : decode cX9_init 8 = .ok (.newarray .int, 2) := by decide +kernel
theorem dX9_init_10 : decode cX9_init 10 = .ok (.putfield 17, 3) := by decide +kernel
theorem dX9_init_13 : decode cX9_init 13 = .ok (.aload_n 0, 1) := by decide +kernel
theorem dX9_init_14 : decode cX9_init 14 = .ok (.sipush 1099, 3) := by decide +kernel
theorem dX9_init_17 : decode cX9_init 17 = .ok (.newarray .int, 2) := by decide +kernel
theorem dX9_init_19 : decode cX9_init 19 = .ok (.putfield 21, 3) := by decide +kernel
theorem dX9_init_22 : decode cX9_init 22 = .ok (.aload_n 0, 1) := by decide +kernel
theorem dX9_init_23 : decode cX9_init 23 = .ok (.aload_n 0, 1) := by decide +kernel
theorem dX9_init_24 : decode cX9_init 24 = .ok (.getfield 17, 3) := by decide +kernel
theorem dX9_init_27 : decode cX9_init 27 = .ok (.putfield 24, 3) := by decide +kernel
theorem dX9_init_30 : decode cX9_init 30 = .ok (.aload_n 0, 1) := by decide +kernel
theorem dX9_init_31 : decode cX9_init 31 = .ok (.bipush 60, 2) := by decide +kernel
theorem dX9_init_33 : decode cX9_init 33 = .ok (.newarray .int, 2) := by decide +kernel
theorem dX9_init_35 : decode cX9_init 35 = .ok (.putfield 27, 3) := by decide +kernel
theorem dX9_init_38 : decode cX9_init 38 = .ok (.aload_n 0, 1) := by decide +kernel
theorem dX9_init_39 : decode cX9_init 39 = .ok (.bipush 60, 2) := by decide +kernel
theorem dX9_init_41 : decode cX9_init 41 = .ok (.newarray .int, 2) := by decide +kernel
theorem dX9_init_43 : decode cX9_init 43 = .ok (.putfield 30, 3) := by decide +kernel
theorem dX9_init_46 : decode cX9_init 46 = .ok (.aload_n 0, 1) := by decide +kernel
theorem dX9_init_47 : decode cX9_init 47 = .ok (.sipush 1099, 3) := by decide +kernel
theorem dX9_init_50 : decode cX9_init 50 = .ok (.newarray .int, 2) := by decide +kernel
theorem dX9_init_52 : decode cX9_init 52 = .ok (.putfield 33, 3) := by decide +kernel
theorem dX9_init_55 : decode cX9_init 55 = .ok (.aload_n 0, 1) := by decide +kernel
theorem dX9_init_56 : decode cX9_init 56 = .ok (.sipush 780, 3) := by decide +kernel
theorem dX9_init_59 : decode cX9_init 59 = .ok (.newarray .int, 2) := by decide +kernel
theorem dX9_init_61 : decode cX9_init 61 = .ok (.putfield 36, 3) := by decide +kernel
theorem dX9_init_64 : decode cX9_init 64 = .ok (.aload_n 0, 1) := by decide +kernel
theorem dX9_init_65 : decode cX9_init 65 = .ok (.bipush 60, 2) := by decide +kernel
theorem dX9_init_67 : decode cX9_init 67 = .ok (.newarray .int, 2) := by decide +kernel
theorem dX9_init_69 : decode cX9_init 69 = .ok (.putfield 39, 3) := by decide +kernel
theorem dX9_init_72 : decode cX9_init 72 = .ok (.aload_n 0, 1) := by decide +kernel
theorem dX9_init_73 : decode cX9_init 73 = .ok (.bipush 60, 2) := by decide +kernel
theorem dX9_init_75 : decode cX9_init 75 = .ok (.newarray .int, 2) := by decide +kernel
theorem dX9_init_77 : decode cX9_init 77 = .ok (.putfield 42, 3) := by decide +kernel
theorem dX9_init_80 : decode cX9_init 80 = .ok (.aload_n 0, 1) := by decide +kernel
theorem dX9_init_81 : decode cX9_init 81 = .ok (.sipush 780, 3) := by decide +kernel
theorem dX9_init_84 : decode cX9_init 84 = .ok (.newarray .int, 2) := by decide +kernel
theorem dX9_init_86 : decode cX9_init 86 = .ok (.putfield 45, 3) := by decide +kernel
theorem dX9_init_89 : decode cX9_init 89 = .ok (.aload_n 0, 1) := by decide +kernel
theorem dX9_init_90 : decode cX9_init 90 = .ok (.sipush 500, 3) := by decide +kernel
theorem dX9_init_93 : decode cX9_init 93 = .ok (.newarray .byte, 2) := by decide +kernel
theorem dX9_init_95 : decode cX9_init 95 = .ok (.putfield 48, 3) := by decide +kernel
theorem dX9_init_98 : decode cX9_init 98 = .ok (.aload_n 0, 1) := by decide +kernel
theorem dX9_init_99 : decode cX9_init 99 = .ok (.iconst (-1), 1) := by decide +kernel
theorem dX9_init_100 : decode cX9_init 100 = .ok (.putfield 52, 3) := by decide +kernel
theorem dX9_init_103 : decode cX9_init 103 = .ok (.aload_n 0, 1) := by decide +kernel
theorem dX9_init_104 : decode cX9_init 104 = .ok (.sipush 2198, 3) := by decide +kernel
theorem dX9_init_107 : decode cX9_init 107 = .ok (.newarray .int, 2) := by decide +kernel
theorem dX9_init_109 : decode cX9_init 109 = .ok (.putfield 55, 3) := by decide +kernel
theorem dX9_init_112 : decode cX9_init 112 = .ok (.aload_n 0, 1) := by decide +kernel
theorem dX9_init_113 : decode cX9_init 113 = .ok (.iconst 2, 1) := by decide +kernel
theorem dX9_init_114 : decode cX9_init 114 = .ok (.newarray .boolean, 2) := by decide +kernel
theorem dX9_init_116 : decode cX9_init 116 = .ok (.putfield 58, 3) := by decide +kernel
theorem dX9_init_119 : decode cX9_init 119 = .ok (.aload_n 0, 1) := by decide +kernel
theorem dX9_init_120 : decode cX9_init 120 = .ok (.sipush 6594, 3) := by decide +kernel
theorem dX9_init_123 : decode cX9_init 123 = .ok (.newarray .int, 2) := by decide +kernel
theorem dX9_init_125 : decode cX9_init 125 = .ok (.putfield 62, 3) := by decide +kernel
theorem dX9_init_128 : decode cX9_init 128 = .ok (.aload_n 0, 1) := by decide +kernel
theorem dX9_init_129 : decode cX9_init 129 = .ok (.sipush 1000, 3) := by decide +kernel
theorem dX9_init_132 : decode cX9_init 132 = .ok (.newarray .byte, 2) := by decide +kernel
theorem dX9_init_134 : decode cX9_init 134 = .ok (.putfield 65, 3) := by decide +kernel
theorem dX9_init_137 : decode cX9_init 137 = .ok (.aload_n 0, 1) := by decide +kernel
theorem dX9_init_138 : decode cX9_init 138 = .ok (.invokevirtual 68, 3) := by decide +kernel
theorem dX9_init_141 : decode cX9_init 141 = .ok (.return_, 1) := by decide +kernel
theorem dX9_layPlain_0 : decode cX9_layPlain 0 = .ok (.iconst 0, 1) := by decide +kernel
theorem dX9_layPlain_1 : decode cX9_layPlain 1 = .ok (.istore_n 1, 1) := by decide +kernel
theorem dX9_layPlain_2 : decode cX9_layPlain 2 = .ok (.iload_n 1, 1) := by decide +kernel
theorem dX9_layPlain_3 : decode cX9_layPlain 3 = .ok (.sipush 1099, 3) := by decide +kernel
theorem dX9_layPlain_6 : decode cX9_layPlain 6 = .ok (.if_icmp .ge 16, 3) := by decide +kernel
theorem dX9_layPlain_9 : decode cX9_layPlain 9 = .ok (.aload_n 0, 1) := by decide +kernel
theorem dX9_layPlain_10 : decode cX9_layPlain 10 = .ok (.getfield 24, 3) := by decide +kernel
theorem dX9_layPlain_13 : decode cX9_layPlain 13 = .ok (.iload_n 1, 1) := by decide +kernel
theorem dX9_layPlain_14 : decode cX9_layPlain 14 = .ok (.iconst 0, 1) := by decide +kernel
theorem dX9_layPlain_15 : decode cX9_layPlain 15 = .ok (.iastore, 1) := by decide +kernel
theorem dX9_layPlain_16 : decode cX9_layPlain 16 = .ok (.iinc 1 1, 3) := by decide +kernel
theorem dX9_layPlain_19 : decode cX9_layPlain 19 = .ok (.goto (-17), 3) := by decide +kernel
theorem dX9_layPlain_22 : decode cX9_layPlain 22 = .ok (.aload_n 0, 1) := by decide +kernel
theorem dX9_layPlain_23 : decode cX9_layPlain 23 = .ok (.getfield 24, 3) := by decide +kernel
theorem dX9_layPlain_26 : decode cX9_layPlain 26 = .ok (.iconst 0, 1) := by decide +kernel
theorem dX9_layPlain_27 : decode cX9_layPlain 27 = .ok (.bipush 10, 2) := by decide +kernel
theorem dX9_layPlain_29 : decode cX9_layPlain 29 = .ok (.iastore, 1) := by decide +kernel
theorem dX9_layPlain_30 : decode cX9_layPlain 30 = .ok (.aload_n 0, 1) := by decide +kernel
theorem dX9_layPlain_31 : decode cX9_layPlain 31 = .ok (.getfield 24, 3) := by decide +kernel
theorem dX9_layPlain_34 : decode cX9_layPlain 34 = .ok (.iconst 1, 1) := by decide +kernel
theorem dX9_layPlain_35 : decode cX9_layPlain 35 = .ok (.iconst 4, 1) := by decide +kernel
theorem dX9_layPlain_36 : decode cX9_layPlain 36 = .ok (.iastore, 1) := by decide +kernel
theorem dX9_layPlain_37 : decode cX9_layPlain 37 = .ok (.aload_n 0, 1) := by decide +kernel
theorem dX9_layPlain_38 : decode cX9_layPlain 38 = .ok (.getfield 24, 3) := by decide +kernel
theorem dX9_layPlain_41 : decode cX9_layPlain 41 = .ok (.iconst 3, 1) := by decide +kernel
theorem dX9_layPlain_42 : decode cX9_layPlain 42 = .ok (.bipush 100, 2) := by decide +kernel
theorem dX9_layPlain_44 : decode cX9_layPlain 44 = .ok (.iastore, 1) := by decide +kernel
theorem dX9_layPlain_45 : decode cX9_layPlain 45 = .ok (.aload_n 0, 1) := by decide +kernel
theorem dX9_layPlain_46 : decode cX9_layPlain 46 = .ok (.getfield 24, 3) := by decide +kernel
theorem dX9_layPlain_49 : decode cX9_layPlain 49 = .ok (.iconst 4, 1) := by decide +kernel
theorem dX9_layPlain_50 : decode cX9_layPlain 50 = .ok (.bipush 10, 2) := by decide +kernel
theorem dX9_layPlain_52 : decode cX9_layPlain 52 = .ok (.iastore, 1) := by decide +kernel
theorem dX9_layPlain_53 : decode cX9_layPlain 53 = .ok (.aload_n 0, 1) := by decide +kernel
theorem dX9_layPlain_54 : decode cX9_layPlain 54 = .ok (.getfield 24, 3) := by decide +kernel
theorem dX9_layPlain_57 : decode cX9_layPlain 57 = .ok (.iconst 5, 1) := by decide +kernel
theorem dX9_layPlain_58 : decode cX9_layPlain 58 = .ok (.bipush 100, 2) := by decide +kernel
theorem dX9_layPlain_60 : decode cX9_layPlain 60 = .ok (.iastore, 1) := by decide +kernel
theorem dX9_layPlain_61 : decode cX9_layPlain 61 = .ok (.return_, 1) := by decide +kernel
theorem dX9_wide_0 : decode cX9_wide 0 = .ok (.aload_n 0, 1) := by decide +kernel
theorem dX9_wide_1 : decode cX9_wide 1 = .ok (.getfield 24, 3) := by decide +kernel
theorem dX9_wide_4 : decode cX9_wide 4 = .ok (.iconst 0, 1) := by decide +kernel
theorem dX9_wide_5 : decode cX9_wide 5 = .ok (.iaload, 1) := by decide +kernel
theorem dX9_wide_6 : decode cX9_wide 6 = .ok (.ireturn, 1) := by decide +kernel
theorem dX9_high_0 : decode cX9_high 0 = .ok (.aload_n 0, 1) := by decide +kernel
theorem dX9_high_1 : decode cX9_high 1 = .ok (.getfield 24, 3) := by decide +kernel
theorem dX9_high_4 : decode cX9_high 4 = .ok (.iconst 1, 1) := by decide +kernel
theorem dX9_high_5 : decode cX9_high 5 = .ok (.iaload, 1) := by decide +kernel
theorem dX9_high_6 : decode cX9_high 6 = .ok (.ireturn, 1) := by decide +kernel
theorem dX9_isCell_0 : decode cX9_isCell 0 = .ok (.iload_n 1, 1) := by decide +kernel
theorem dX9_isCell_1 : decode cX9_isCell 1 = .ok (.i2l, 1) := by decide +kernel
theorem dX9_isCell_2 : decode cX9_isCell 2 = .ok (.lconst 0, 1) := by decide +kernel
theorem dX9_isCell_3 : decode cX9_isCell 3 = .ok (.aload_n 0, 1) := by decide +kernel
theorem dX9_isCell_4 : decode cX9_isCell 4 = .ok (.invokevirtual 71, 3) := by decide +kernel
theorem dX9_isCell_7 : decode cX9_isCell 7 = .ok (.iconst 1, 1) := by decide +kernel
theorem dX9_isCell_8 : decode cX9_isCell 8 = .ok (.isub, 1) := by decide +kernel
theorem dX9_isCell_9 : decode cX9_isCell 9 = .ok (.i2l, 1) := by decide +kernel
theorem dX9_isCell_10 : decode cX9_isCell 10 = .ok (.invokestatic 75, 3) := by decide +kernel
theorem dX9_isCell_13 : decode cX9_isCell 13 = .ok (.ifCond .eq 23, 3) := by decide +kernel
theorem dX9_isCell_16 : decode cX9_isCell 16 = .ok (.iload_n 2, 1) := by decide +kernel
theorem dX9_isCell_17 : decode cX9_isCell 17 = .ok (.i2l, 1) := by decide +kernel
theorem dX9_isCell_18 : decode cX9_isCell 18 = .ok (.lconst 0, 1) := by decide +kernel
theorem dX9_isCell_19 : decode cX9_isCell 19 = .ok (.aload_n 0, 1) := by decide +kernel
theorem dX9_isCell_20 : decode cX9_isCell 20 = .ok (.invokevirtual 79, 3) := by decide +kernel
theorem dX9_isCell_23 : decode cX9_isCell 23 = .ok (.iconst 1, 1) := by decide +kernel
theorem dX9_isCell_24 : decode cX9_isCell 24 = .ok (.isub, 1) := by decide +kernel
theorem dX9_isCell_25 : decode cX9_isCell 25 = .ok (.i2l, 1) := by decide +kernel
theorem dX9_isCell_26 : decode cX9_isCell 26 = .ok (.invokestatic 75, 3) := by decide +kernel
theorem dX9_isCell_29 : decode cX9_isCell 29 = .ok (.ifCond .eq 7, 3) := by decide +kernel
theorem dX9_isCell_32 : decode cX9_isCell 32 = .ok (.iconst 1, 1) := by decide +kernel
theorem dX9_isCell_33 : decode cX9_isCell 33 = .ok (.goto 4, 3) := by decide +kernel
theorem dX9_isCell_36 : decode cX9_isCell 36 = .ok (.iconst 0, 1) := by decide +kernel
theorem dX9_isCell_37 : decode cX9_isCell 37 = .ok (.ireturn, 1) := by decide +kernel
theorem dX9_hasFlaw_0 : decode cX9_hasFlaw 0 = .ok (.aload_n 0, 1) := by decide +kernel
theorem dX9_hasFlaw_1 : decode cX9_hasFlaw 1 = .ok (.iload_n 1, 1) := by decide +kernel
theorem dX9_hasFlaw_2 : decode cX9_hasFlaw 2 = .ok (.iload_n 2, 1) := by decide +kernel
theorem dX9_hasFlaw_3 : decode cX9_hasFlaw 3 = .ok (.invokevirtual 82, 3) := by decide +kernel
theorem dX9_hasFlaw_6 : decode cX9_hasFlaw 6 = .ok (.ifCond .eq 25, 3) := by decide +kernel
theorem dX9_hasFlaw_9 : decode cX9_hasFlaw 9 = .ok (.aload_n 0, 1) := by decide +kernel
theorem dX9_hasFlaw_10 : decode cX9_hasFlaw 10 = .ok (.getfield 24, 3) := by decide +kernel
theorem dX9_hasFlaw_13 : decode cX9_hasFlaw 13 = .ok (.bipush 11, 2) := by decide +kernel
theorem dX9_hasFlaw_15 : decode cX9_hasFlaw 15 = .ok (.bipush 24, 2) := by decide +kernel
theorem dX9_hasFlaw_17 : decode cX9_hasFlaw 17 = .ok (.iload_n 2, 1) := by decide +kernel
theorem dX9_hasFlaw_18 : decode cX9_hasFlaw 18 = .ok (.imul, 1) := by decide +kernel
theorem dX9_hasFlaw_19 : decode cX9_hasFlaw 19 = .ok (.iadd, 1) := by decide +kernel
theorem dX9_hasFlaw_20 : decode cX9_hasFlaw 20 = .ok (.iload_n 1, 1) := by decide +kernel
theorem dX9_hasFlaw_21 : decode cX9_hasFlaw 21 = .ok (.iadd, 1) := by decide +kernel
theorem dX9_hasFlaw_22 : decode cX9_hasFlaw 22 = .ok (.iaload, 1) := by decide +kernel
theorem dX9_hasFlaw_23 : decode cX9_hasFlaw 23 = .ok (.iconst 1, 1) := by decide +kernel
theorem dX9_hasFlaw_24 : decode cX9_hasFlaw 24 = .ok (.if_icmp .ne 7, 3) := by decide +kernel
theorem dX9_hasFlaw_27 : decode cX9_hasFlaw 27 = .ok (.iconst 1, 1) := by decide +kernel
theorem dX9_hasFlaw_28 : decode cX9_hasFlaw 28 = .ok (.goto 4, 3) := by decide +kernel
theorem dX9_hasFlaw_31 : decode cX9_hasFlaw 31 = .ok (.iconst 0, 1) := by decide +kernel
theorem dX9_hasFlaw_32 : decode cX9_hasFlaw 32 = .ok (.ireturn, 1) := by decide +kernel
theorem dX9_putFlaw_0 : decode cX9_putFlaw 0 = .ok (.aload_n 0, 1) := by decide +kernel
theorem dX9_putFlaw_1 : decode cX9_putFlaw 1 = .ok (.getfield 24, 3) := by decide +kernel
theorem dX9_putFlaw_4 : decode cX9_putFlaw 4 = .ok (.bipush 11, 2) := by decide +kernel
theorem dX9_putFlaw_6 : decode cX9_putFlaw 6 = .ok (.bipush 24, 2) := by decide +kernel
theorem dX9_putFlaw_8 : decode cX9_putFlaw 8 = .ok (.iload_n 2, 1) := by decide +kernel
theorem dX9_putFlaw_9 : decode cX9_putFlaw 9 = .ok (.imul, 1) := by decide +kernel
theorem dX9_putFlaw_10 : decode cX9_putFlaw 10 = .ok (.iadd, 1) := by decide +kernel
theorem dX9_putFlaw_11 : decode cX9_putFlaw 11 = .ok (.iload_n 1, 1) := by decide +kernel
theorem dX9_putFlaw_12 : decode cX9_putFlaw 12 = .ok (.iadd, 1) := by decide +kernel
theorem dX9_putFlaw_13 : decode cX9_putFlaw 13 = .ok (.iload_n 3, 1) := by decide +kernel
theorem dX9_putFlaw_14 : decode cX9_putFlaw 14 = .ok (.iastore, 1) := by decide +kernel
theorem dX9_putFlaw_15 : decode cX9_putFlaw 15 = .ok (.return_, 1) := by decide +kernel
theorem dX9_flaws_0 : decode cX9_flaws 0 = .ok (.iconst 0, 1) := by decide +kernel
theorem dX9_flaws_1 : decode cX9_flaws 1 = .ok (.istore_n 1, 1) := by decide +kernel
theorem dX9_flaws_2 : decode cX9_flaws 2 = .ok (.iconst 0, 1) := by decide +kernel
theorem dX9_flaws_3 : decode cX9_flaws 3 = .ok (.istore_n 2, 1) := by decide +kernel
theorem dX9_flaws_4 : decode cX9_flaws 4 = .ok (.iload_n 2, 1) := by decide +kernel
theorem dX9_flaws_5 : decode cX9_flaws 5 = .ok (.sipush 288, 3) := by decide +kernel
theorem dX9_flaws_8 : decode cX9_flaws 8 = .ok (.if_icmp .ge 21, 3) := by decide +kernel
theorem dX9_flaws_11 : decode cX9_flaws 11 = .ok (.iload_n 1, 1) := by decide +kernel
theorem dX9_flaws_12 : decode cX9_flaws 12 = .ok (.aload_n 0, 1) := by decide +kernel
theorem dX9_flaws_13 : decode cX9_flaws 13 = .ok (.getfield 24, 3) := by decide +kernel
theorem dX9_flaws_16 : decode cX9_flaws 16 = .ok (.bipush 11, 2) := by decide +kernel
theorem dX9_flaws_18 : decode cX9_flaws 18 = .ok (.iload_n 2, 1) := by decide +kernel
theorem dX9_flaws_19 : decode cX9_flaws 19 = .ok (.iadd, 1) := by decide +kernel
theorem dX9_flaws_20 : decode cX9_flaws 20 = .ok (.iaload, 1) := by decide +kernel
theorem dX9_flaws_21 : decode cX9_flaws 21 = .ok (.iadd, 1) := by decide +kernel
theorem dX9_flaws_22 : decode cX9_flaws 22 = .ok (.istore_n 1, 1) := by decide +kernel
theorem dX9_flaws_23 : decode cX9_flaws 23 = .ok (.iinc 2 1, 3) := by decide +kernel
theorem dX9_flaws_26 : decode cX9_flaws 26 = .ok (.goto (-22), 3) := by decide +kernel
theorem dX9_flaws_29 : decode cX9_flaws 29 = .ok (.iload_n 1, 1) := by decide +kernel
theorem dX9_flaws_30 : decode cX9_flaws 30 = .ok (.ireturn, 1) := by decide +kernel
theorem dX9_kindOf_0 : decode cX9_kindOf 0 = .ok (.aload_n 0, 1) := by decide +kernel
theorem dX9_kindOf_1 : decode cX9_kindOf 1 = .ok (.getfield 24, 3) := by decide +kernel
theorem dX9_kindOf_4 : decode cX9_kindOf 4 = .ok (.sipush 299, 3) := by decide +kernel
theorem dX9_kindOf_7 : decode cX9_kindOf 7 = .ok (.iconst 2, 1) := by decide +kernel
theorem dX9_kindOf_8 : decode cX9_kindOf 8 = .ok (.iload_n 1, 1) := by decide +kernel
theorem dX9_kindOf_9 : decode cX9_kindOf 9 = .ok (.imul, 1) := by decide +kernel
theorem dX9_kindOf_10 : decode cX9_kindOf 10 = .ok (.iadd, 1) := by decide +kernel
theorem dX9_kindOf_11 : decode cX9_kindOf 11 = .ok (.iconst 0, 1) := by decide +kernel
theorem dX9_kindOf_12 : decode cX9_kindOf 12 = .ok (.iadd, 1) := by decide +kernel
theorem dX9_kindOf_13 : decode cX9_kindOf 13 = .ok (.iaload, 1) := by decide +kernel
theorem dX9_kindOf_14 : decode cX9_kindOf 14 = .ok (.ireturn, 1) := by decide +kernel
theorem dX9_manyOf_0 : decode cX9_manyOf 0 = .ok (.aload_n 0, 1) := by decide +kernel
theorem dX9_manyOf_1 : decode cX9_manyOf 1 = .ok (.getfield 24, 3) := by decide +kernel
theorem dX9_manyOf_4 : decode cX9_manyOf 4 = .ok (.sipush 299, 3) := by decide +kernel
theorem dX9_manyOf_7 : decode cX9_manyOf 7 = .ok (.iconst 2, 1) := by decide +kernel
theorem dX9_manyOf_8 : decode cX9_manyOf 8 = .ok (.iload_n 1, 1) := by decide +kernel
theorem dX9_manyOf_9 : decode cX9_manyOf 9 = .ok (.imul, 1) := by decide +kernel
theorem dX9_manyOf_10 : decode cX9_manyOf 10 = .ok (.iadd, 1) := by decide +kernel
theorem dX9_manyOf_11 : decode cX9_manyOf 11 = .ok (.iconst 1, 1) := by decide +kernel
theorem dX9_manyOf_12 : decode cX9_manyOf 12 = .ok (.iadd, 1) := by decide +kernel
theorem dX9_manyOf_13 : decode cX9_manyOf 13 = .ok (.iaload, 1) := by decide +kernel
theorem dX9_manyOf_14 : decode cX9_manyOf 14 = .ok (.ireturn, 1) := by decide +kernel
theorem dX9_firstOf_0 : decode cX9_firstOf 0 = .ok (.iconst 0, 1) := by decide +kernel
theorem dX9_firstOf_1 : decode cX9_firstOf 1 = .ok (.istore_n 2, 1) := by decide +kernel
theorem dX9_firstOf_2 : decode cX9_firstOf 2 = .ok (.iconst 0, 1) := by decide +kernel
theorem dX9_firstOf_3 : decode cX9_firstOf 3 = .ok (.istore_n 3, 1) := by decide +kernel
theorem dX9_firstOf_4 : decode cX9_firstOf 4 = .ok (.iload_n 3, 1) := by decide +kernel
theorem dX9_firstOf_5 : decode cX9_firstOf 5 = .ok (.iload_n 1, 1) := by decide +kernel
theorem dX9_firstOf_6 : decode cX9_firstOf 6 = .ok (.if_icmp .ge 17, 3) := by decide +kernel
theorem dX9_firstOf_9 : decode cX9_firstOf 9 = .ok (.iload_n 2, 1) := by decide +kernel
theorem dX9_firstOf_10 : decode cX9_firstOf 10 = .ok (.aload_n 0, 1) := by decide +kernel
theorem dX9_firstOf_11 : decode cX9_firstOf 11 = .ok (.iload_n 3, 1) := by decide +kernel
theorem dX9_firstOf_12 : decode cX9_firstOf 12 = .ok (.invokevirtual 86, 3) := by decide +kernel
theorem dX9_firstOf_15 : decode cX9_firstOf 15 = .ok (.iadd, 1) := by decide +kernel
theorem dX9_firstOf_16 : decode cX9_firstOf 16 = .ok (.istore_n 2, 1) := by decide +kernel
theorem dX9_firstOf_17 : decode cX9_firstOf 17 = .ok (.iinc 3 1, 3) := by decide +kernel
theorem dX9_firstOf_20 : decode cX9_firstOf 20 = .ok (.goto (-16), 3) := by decide +kernel
theorem dX9_firstOf_23 : decode cX9_firstOf 23 = .ok (.iload_n 2, 1) := by decide +kernel
theorem dX9_firstOf_24 : decode cX9_firstOf 24 = .ok (.ireturn, 1) := by decide +kernel
theorem dX9_partOf_0 : decode cX9_partOf 0 = .ok (.iconst 0, 1) := by decide +kernel
theorem dX9_partOf_1 : decode cX9_partOf 1 = .ok (.istore_n 2, 1) := by decide +kernel
theorem dX9_partOf_2 : decode cX9_partOf 2 = .ok (.aload_n 0, 1) := by decide +kernel
theorem dX9_partOf_3 : decode cX9_partOf 3 = .ok (.iload_n 2, 1) := by decide +kernel
theorem dX9_partOf_4 : decode cX9_partOf 4 = .ok (.iconst 1, 1) := by decide +kernel
theorem dX9_partOf_5 : decode cX9_partOf 5 = .ok (.iadd, 1) := by decide +kernel
theorem dX9_partOf_6 : decode cX9_partOf 6 = .ok (.invokevirtual 90, 3) := by decide +kernel
theorem dX9_partOf_9 : decode cX9_partOf 9 = .ok (.iload_n 1, 1) := by decide +kernel
theorem dX9_partOf_10 : decode cX9_partOf 10 = .ok (.if_icmp .gt 9, 3) := by decide +kernel
theorem dX9_partOf_13 : decode cX9_partOf 13 = .ok (.iinc 2 1, 3) := by decide +kernel
theorem dX9_partOf_16 : decode cX9_partOf 16 = .ok (.goto (-14), 3) := by decide +kernel
theorem dX9_partOf_19 : decode cX9_partOf 19 = .ok (.iload_n 2, 1) := by decide +kernel
theorem dX9_partOf_20 : decode cX9_partOf 20 = .ok (.ireturn, 1) := by decide +kernel
theorem dX9_bytesOf_0 : decode cX9_bytesOf 0 = .ok (.aload_n 0, 1) := by decide +kernel
theorem dX9_bytesOf_1 : decode cX9_bytesOf 1 = .ok (.getfield 24, 3) := by decide +kernel
theorem dX9_bytesOf_4 : decode cX9_bytesOf 4 = .ok (.sipush 319, 3) := by decide +kernel
theorem dX9_bytesOf_7 : decode cX9_bytesOf 7 = .ok (.bipush 13, 2) := by decide +kernel
theorem dX9_bytesOf_9 : decode cX9_bytesOf 9 = .ok (.iload_n 1, 1) := by decide +kernel
theorem dX9_bytesOf_10 : decode cX9_bytesOf 10 = .ok (.imul, 1) := by decide +kernel
theorem dX9_bytesOf_11 : decode cX9_bytesOf 11 = .ok (.iadd, 1) := by decide +kernel
theorem dX9_bytesOf_12 : decode cX9_bytesOf 12 = .ok (.iaload, 1) := by decide +kernel
theorem dX9_bytesOf_13 : decode cX9_bytesOf 13 = .ok (.ireturn, 1) := by decide +kernel
theorem dX9_byteOf_0 : decode cX9_byteOf 0 = .ok (.aload_n 0, 1) := by decide +kernel
theorem dX9_byteOf_1 : decode cX9_byteOf 1 = .ok (.getfield 24, 3) := by decide +kernel
theorem dX9_byteOf_4 : decode cX9_byteOf 4 = .ok (.sipush 319, 3) := by decide +kernel
theorem dX9_byteOf_7 : decode cX9_byteOf 7 = .ok (.bipush 13, 2) := by decide +kernel
theorem dX9_byteOf_9 : decode cX9_byteOf 9 = .ok (.iload_n 1, 1) := by decide +kernel
theorem dX9_byteOf_10 : decode cX9_byteOf 10 = .ok (.imul, 1) := by decide +kernel
theorem dX9_byteOf_11 : decode cX9_byteOf 11 = .ok (.iadd, 1) := by decide +kernel
theorem dX9_byteOf_12 : decode cX9_byteOf 12 = .ok (.iconst 1, 1) := by decide +kernel
theorem dX9_byteOf_13 : decode cX9_byteOf 13 = .ok (.iadd, 1) := by decide +kernel
theorem dX9_byteOf_14 : decode cX9_byteOf 14 = .ok (.iload_n 2, 1) := by decide +kernel
theorem dX9_byteOf_15 : decode cX9_byteOf 15 = .ok (.iadd, 1) := by decide +kernel
theorem dX9_byteOf_16 : decode cX9_byteOf 16 = .ok (.iaload, 1) := by decide +kernel
theorem dX9_byteOf_17 : decode cX9_byteOf 17 = .ok (.ireturn, 1) := by decide +kernel
theorem dX9_isPart_0 : decode cX9_isPart 0 = .ok (.iload_n 1, 1) := by decide +kernel
theorem dX9_isPart_1 : decode cX9_isPart 1 = .ok (.i2l, 1) := by decide +kernel
theorem dX9_isPart_2 : decode cX9_isPart 2 = .ok (.lconst 0, 1) := by decide +kernel
theorem dX9_isPart_3 : decode cX9_isPart 3 = .ok (.aload_n 0, 1) := by decide +kernel
theorem dX9_isPart_4 : decode cX9_isPart 4 = .ok (.getfield 24, 3) := by decide +kernel
theorem dX9_isPart_7 : decode cX9_isPart 7 = .ok (.bipush 9, 2) := by decide +kernel
theorem dX9_isPart_9 : decode cX9_isPart 9 = .ok (.iaload, 1) := by decide +kernel
theorem dX9_isPart_10 : decode cX9_isPart 10 = .ok (.iconst 1, 1) := by decide +kernel
theorem dX9_isPart_11 : decode cX9_isPart 11 = .ok (.isub, 1) := by decide +kernel
theorem dX9_isPart_12 : decode cX9_isPart 12 = .ok (.i2l, 1) := by decide +kernel
theorem dX9_isPart_13 : decode cX9_isPart 13 = .ok (.invokestatic 75, 3) := by decide +kernel
theorem dX9_isPart_16 : decode cX9_isPart 16 = .ok (.ireturn, 1) := by decide +kernel
theorem dX9_isWordNumber_0 : decode cX9_isWordNumber 0 = .ok (.iload_n 1, 1) := by decide +kernel
theorem dX9_isWordNumber_1 : decode cX9_isWordNumber 1 = .ok (.i2l, 1) := by decide +kernel
theorem dX9_isWordNumber_2 : decode cX9_isWordNumber 2 = .ok (.lconst 0, 1) := by decide +kernel
theorem dX9_isWordNumber_3 : decode cX9_isWordNumber 3 = .ok (.aload_n 0, 1) := by decide +kernel
theorem dX9_isWordNumber_4 : decode cX9_isWordNumber 4 = .ok (.getfield 24, 3) := by decide +kernel
theorem dX9_isWordNumber_7 : decode cX9_isWordNumber 7 = .ok (.bipush 10, 2) := by decide +kernel
theorem dX9_isWordNumber_9 : decode cX9_isWordNumber 9 = .ok (.iaload, 1) := by decide +kernel
theorem dX9_isWordNumber_10 : decode cX9_isWordNumber 10 = .ok (.iconst 1, 1) := by decide +kernel
theorem dX9_isWordNumber_11 : decode cX9_isWordNumber 11 = .ok (.isub, 1) := by decide +kernel
theorem dX9_isWordNumber_12 : decode cX9_isWordNumber 12 = .ok (.i2l, 1) := by decide +kernel
theorem dX9_isWordNumber_13 : decode cX9_isWordNumber 13 = .ok (.invokestatic 75, 3) := by decide +kernel
theorem dX9_isWordNumber_16 : decode cX9_isWordNumber 16 = .ok (.ireturn, 1) := by decide +kernel
theorem dX9_fitsAt_0 : decode cX9_fitsAt 0 = .ok (.iload_n 1, 1) := by decide +kernel
theorem dX9_fitsAt_1 : decode cX9_fitsAt 1 = .ok (.iload_n 3, 1) := by decide +kernel
theorem dX9_fitsAt_2 : decode cX9_fitsAt 2 = .ok (.iadd, 1) := by decide +kernel
theorem dX9_fitsAt_3 : decode cX9_fitsAt 3 = .ok (.aload_n 0, 1) := by decide +kernel
theorem dX9_fitsAt_4 : decode cX9_fitsAt 4 = .ok (.invokevirtual 71, 3) := by decide +kernel
theorem dX9_fitsAt_7 : decode cX9_fitsAt 7 = .ok (.if_icmp .le 5, 3) := by decide +kernel
theorem dX9_fitsAt_10 : decode cX9_fitsAt 10 = .ok (.iconst 0, 1) := by decide +kernel
theorem dX9_fitsAt_11 : decode cX9_fitsAt 11 = .ok (.ireturn, 1) := by decide +kernel
theorem dX9_fitsAt_12 : decode cX9_fitsAt 12 = .ok (.iconst 1, 1) := by decide +kernel
theorem dX9_fitsAt_13 : decode cX9_fitsAt 13 = .ok (.istore 4, 2) := by decide +kernel
theorem dX9_fitsAt_15 : decode cX9_fitsAt 15 = .ok (.iload_n 1, 1) := by decide +kernel
theorem dX9_fitsAt_16 : decode cX9_fitsAt 16 = .ok (.istore 5, 2) := by decide +kernel
theorem dX9_fitsAt_18 : decode cX9_fitsAt 18 = .ok (.iload 5, 2) := by decide +kernel
theorem dX9_fitsAt_20 : decode cX9_fitsAt 20 = .ok (.iload_n 1, 1) := by decide +kernel
theorem dX9_fitsAt_21 : decode cX9_fitsAt 21 = .ok (.iload_n 3, 1) := by decide +kernel
theorem dX9_fitsAt_22 : decode cX9_fitsAt 22 = .ok (.iadd, 1) := by decide +kernel
theorem dX9_fitsAt_23 : decode cX9_fitsAt 23 = .ok (.if_icmp .ge 31, 3) := by decide +kernel
theorem dX9_fitsAt_26 : decode cX9_fitsAt 26 = .ok (.iload 4, 2) := by decide +kernel
theorem dX9_fitsAt_28 : decode cX9_fitsAt 28 = .ok (.ifCond .eq 17, 3) := by decide +kernel
theorem dX9_fitsAt_31 : decode cX9_fitsAt 31 = .ok (.aload_n 0, 1) := by decide +kernel
theorem dX9_fitsAt_32 : decode cX9_fitsAt 32 = .ok (.iload 5, 2) := by decide +kernel
theorem dX9_fitsAt_34 : decode cX9_fitsAt 34 = .ok (.iload_n 2, 1) := by decide +kernel
theorem dX9_fitsAt_35 : decode cX9_fitsAt 35 = .ok (.invokevirtual 93, 3) := by decide +kernel
theorem dX9_fitsAt_38 : decode cX9_fitsAt 38 = .ok (.ifCond .ne 7, 3) := by decide +kernel
theorem dX9_fitsAt_41 : decode cX9_fitsAt 41 = .ok (.iconst 1, 1) := by decide +kernel
theorem dX9_fitsAt_42 : decode cX9_fitsAt 42 = .ok (.goto 4, 3) := by decide +kernel
theorem dX9_fitsAt_45 : decode cX9_fitsAt 45 = .ok (.iconst 0, 1) := by decide +kernel
theorem dX9_fitsAt_46 : decode cX9_fitsAt 46 = .ok (.istore 4, 2) := by decide +kernel
theorem dX9_fitsAt_48 : decode cX9_fitsAt 48 = .ok (.iinc 5 1, 3) := by decide +kernel
theorem dX9_fitsAt_51 : decode cX9_fitsAt 51 = .ok (.goto (-33), 3) := by decide +kernel
theorem dX9_fitsAt_54 : decode cX9_fitsAt 54 = .ok (.iload 4, 2) := by decide +kernel
theorem dX9_fitsAt_56 : decode cX9_fitsAt 56 = .ok (.ireturn, 1) := by decide +kernel
theorem dX9_findPlace_0 : decode cX9_findPlace 0 = .ok (.aload_n 0, 1) := by decide +kernel
theorem dX9_findPlace_1 : decode cX9_findPlace 1 = .ok (.getfield 96, 3) := by decide +kernel
theorem dX9_findPlace_4 : decode cX9_findPlace 4 = .ok (.aload_n 0, 1) := by decide +kernel
theorem dX9_findPlace_5 : decode cX9_findPlace 5 = .ok (.invokevirtual 79, 3) := by decide +kernel
theorem dX9_findPlace_8 : decode cX9_findPlace 8 = .ok (.if_icmp .ge 65, 3) := by decide +kernel
theorem dX9_findPlace_11 : decode cX9_findPlace 11 = .ok (.aload_n 0, 1) := by decide +kernel
theorem dX9_findPlace_12 : decode cX9_findPlace 12 = .ok (.getfield 99, 3) := by decide +kernel
theorem dX9_findPlace_15 : decode cX9_findPlace 15 = .ok (.iload_n 1, 1) := by decide +kernel
theorem dX9_findPlace_16 : decode cX9_findPlace 16 = .ok (.iadd, 1) := by decide +kernel
theorem dX9_findPlace_17 : decode cX9_findPlace 17 = .ok (.aload_n 0, 1) := by decide +kernel
theorem dX9_findPlace_18 : decode cX9_findPlace 18 = .ok (.invokevirtual 71, 3) := by decide +kernel
theorem dX9_findPlace_21 : decode cX9_findPlace 21 = .ok (.if_icmp .gt 34, 3) := by decide +kernel
theorem dX9_findPlace_24 : decode cX9_findPlace 24 = .ok (.aload_n 0, 1) := by decide +kernel
theorem dX9_findPlace_25 : decode cX9_findPlace 25 = .ok (.aload_n 0, 1) := by decide +kernel
theorem dX9_findPlace_26 : decode cX9_findPlace 26 = .ok (.getfield 99, 3) := by decide +kernel
theorem dX9_findPlace_29 : decode cX9_findPlace 29 = .ok (.aload_n 0, 1) := by decide +kernel
theorem dX9_findPlace_30 : decode cX9_findPlace 30 = .ok (.getfield 96, 3) := by decide +kernel
theorem dX9_findPlace_33 : decode cX9_findPlace 33 = .ok (.iload_n 1, 1) := by decide +kernel
theorem dX9_findPlace_34 : decode cX9_findPlace 34 = .ok (.invokevirtual 102, 3) := by decide +kernel
theorem dX9_findPlace_37 : decode cX9_findPlace 37 = .ok (.ifCond .eq 5, 3) := by decide +kernel
theorem dX9_findPlace_40 : decode cX9_findPlace 40 = .ok (.iconst 1, 1) := by decide +kernel
theorem dX9_findPlace_41 : decode cX9_findPlace 41 = .ok (.ireturn, 1) := by decide +kernel
theorem dX9_findPlace_42 : decode cX9_findPlace 42 = .ok (.aload_n 0, 1) := by decide +kernel
theorem dX9_findPlace_43 : decode cX9_findPlace 43 = .ok (.dup, 1) := by decide +kernel
theorem dX9_findPlace_44 : decode cX9_findPlace 44 = .ok (.getfield 99, 3) := by decide +kernel
theorem dX9_findPlace_47 : decode cX9_findPlace 47 = .ok (.iconst 1, 1) := by decide +kernel
theorem dX9_findPlace_48 : decode cX9_findPlace 48 = .ok (.iadd, 1) := by decide +kernel
theorem dX9_findPlace_49 : decode cX9_findPlace 49 = .ok (.putfield 99, 3) := by decide +kernel
theorem dX9_findPlace_52 : decode cX9_findPlace 52 = .ok (.goto (-41), 3) := by decide +kernel
theorem dX9_findPlace_55 : decode cX9_findPlace 55 = .ok (.aload_n 0, 1) := by decide +kernel
theorem dX9_findPlace_56 : decode cX9_findPlace 56 = .ok (.dup, 1) := by decide +kernel
theorem dX9_findPlace_57 : decode cX9_findPlace 57 = .ok (.getfield 96, 3) := by decide +kernel
theorem dX9_findPlace_60 : decode cX9_findPlace 60 = .ok (.iconst 1, 1) := by decide +kernel
theorem dX9_findPlace_61 : decode cX9_findPlace 61 = .ok (.iadd, 1) := by decide +kernel
theorem dX9_findPlace_62 : decode cX9_findPlace 62 = .ok (.putfield 96, 3) := by decide +kernel
theorem dX9_findPlace_65 : decode cX9_findPlace 65 = .ok (.aload_n 0, 1) := by decide +kernel
theorem dX9_findPlace_66 : decode cX9_findPlace 66 = .ok (.iconst 0, 1) := by decide +kernel
theorem dX9_findPlace_67 : decode cX9_findPlace 67 = .ok (.putfield 99, 3) := by decide +kernel
theorem dX9_findPlace_70 : decode cX9_findPlace 70 = .ok (.goto (-70), 3) := by decide +kernel
theorem dX9_findPlace_73 : decode cX9_findPlace 73 = .ok (.iconst 0, 1) := by decide +kernel
theorem dX9_findPlace_74 : decode cX9_findPlace 74 = .ok (.ireturn, 1) := by decide +kernel
theorem dX9_mayMove_0 : decode cX9_mayMove 0 = .ok (.iconst 1, 1) := by decide +kernel
theorem dX9_mayMove_1 : decode cX9_mayMove 1 = .ok (.istore 4, 2) := by decide +kernel
theorem dX9_mayMove_3 : decode cX9_mayMove 3 = .ok (.iload_n 1, 1) := by decide +kernel
theorem dX9_mayMove_4 : decode cX9_mayMove 4 = .ok (.istore 5, 2) := by decide +kernel
theorem dX9_mayMove_6 : decode cX9_mayMove 6 = .ok (.iload 5, 2) := by decide +kernel
theorem dX9_mayMove_8 : decode cX9_mayMove 8 = .ok (.iload_n 2, 1) := by decide +kernel
theorem dX9_mayMove_9 : decode cX9_mayMove 9 = .ok (.if_icmp .ge 50, 3) := by decide +kernel
theorem dX9_mayMove_12 : decode cX9_mayMove 12 = .ok (.iload 4, 2) := by decide +kernel
theorem dX9_mayMove_14 : decode cX9_mayMove 14 = .ok (.ifCond .eq 36, 3) := by decide +kernel
theorem dX9_mayMove_17 : decode cX9_mayMove 17 = .ok (.aload_n 0, 1) := by decide +kernel
theorem dX9_mayMove_18 : decode cX9_mayMove 18 = .ok (.aload_n 0, 1) := by decide +kernel
theorem dX9_mayMove_19 : decode cX9_mayMove 19 = .ok (.getfield 30, 3) := by decide +kernel
theorem dX9_mayMove_22 : decode cX9_mayMove 22 = .ok (.iload 5, 2) := by decide +kernel
theorem dX9_mayMove_24 : decode cX9_mayMove 24 = .ok (.iaload, 1) := by decide +kernel
theorem dX9_mayMove_25 : decode cX9_mayMove 25 = .ok (.iload_n 3, 1) := by decide +kernel
theorem dX9_mayMove_26 : decode cX9_mayMove 26 = .ok (.iadd, 1) := by decide +kernel
theorem dX9_mayMove_27 : decode cX9_mayMove 27 = .ok (.aload_n 0, 1) := by decide +kernel
theorem dX9_mayMove_28 : decode cX9_mayMove 28 = .ok (.getfield 27, 3) := by decide +kernel
theorem dX9_mayMove_31 : decode cX9_mayMove 31 = .ok (.iload 5, 2) := by decide +kernel
theorem dX9_mayMove_33 : decode cX9_mayMove 33 = .ok (.iaload, 1) := by decide +kernel
theorem dX9_mayMove_34 : decode cX9_mayMove 34 = .ok (.aload_n 0, 1) := by decide +kernel
theorem dX9_mayMove_35 : decode cX9_mayMove 35 = .ok (.iload 5, 2) := by decide +kernel
theorem dX9_mayMove_37 : decode cX9_mayMove 37 = .ok (.invokevirtual 106, 3) := by decide +kernel
theorem dX9_mayMove_40 : decode cX9_mayMove 40 = .ok (.invokevirtual 102, 3) := by decide +kernel
theorem dX9_mayMove_43 : decode cX9_mayMove 43 = .ok (.ifCond .eq 7, 3) := by decide +kernel
theorem dX9_mayMove_46 : decode cX9_mayMove 46 = .ok (.iconst 1, 1) := by decide +kernel
theorem dX9_mayMove_47 : decode cX9_mayMove 47 = .ok (.goto 4, 3) := by decide +kernel
theorem dX9_mayMove_50 : decode cX9_mayMove 50 = .ok (.iconst 0, 1) := by decide +kernel
theorem dX9_mayMove_51 : decode cX9_mayMove 51 = .ok (.istore 4, 2) := by decide +kernel
theorem dX9_mayMove_53 : decode cX9_mayMove 53 = .ok (.iinc 5 1, 3) := by decide +kernel
theorem dX9_mayMove_56 : decode cX9_mayMove 56 = .ok (.goto (-50), 3) := by decide +kernel
theorem dX9_mayMove_59 : decode cX9_mayMove 59 = .ok (.iload 4, 2) := by decide +kernel
theorem dX9_mayMove_61 : decode cX9_mayMove 61 = .ok (.ireturn, 1) := by decide +kernel
theorem dX9_moveRow_0 : decode cX9_moveRow 0 = .ok (.iload_n 2, 1) := by decide +kernel
theorem dX9_moveRow_1 : decode cX9_moveRow 1 = .ok (.iconst 1, 1) := by decide +kernel
theorem dX9_moveRow_2 : decode cX9_moveRow 2 = .ok (.isub, 1) := by decide +kernel
theorem dX9_moveRow_3 : decode cX9_moveRow 3 = .ok (.istore_n 3, 1) := by decide +kernel
theorem dX9_moveRow_4 : decode cX9_moveRow 4 = .ok (.aload_n 0, 1) := by decide +kernel
theorem dX9_moveRow_5 : decode cX9_moveRow 5 = .ok (.invokevirtual 71, 3) := by decide +kernel
theorem dX9_moveRow_8 : decode cX9_moveRow 8 = .ok (.aload_n 0, 1) := by decide +kernel
theorem dX9_moveRow_9 : decode cX9_moveRow 9 = .ok (.getfield 30, 3) := by decide +kernel
theorem dX9_moveRow_12 : decode cX9_moveRow 12 = .ok (.iload_n 3, 1) := by decide +kernel
theorem dX9_moveRow_13 : decode cX9_moveRow 13 = .ok (.iaload, 1) := by decide +kernel
theorem dX9_moveRow_14 : decode cX9_moveRow 14 = .ok (.isub, 1) := by decide +kernel
theorem dX9_moveRow_15 : decode cX9_moveRow 15 = .ok (.aload_n 0, 1) := by decide +kernel
theorem dX9_moveRow_16 : decode cX9_moveRow 16 = .ok (.iload_n 3, 1) := by decide +kernel
theorem dX9_moveRow_17 : decode cX9_moveRow 17 = .ok (.invokevirtual 106, 3) := by decide +kernel
theorem dX9_moveRow_20 : decode cX9_moveRow 20 = .ok (.isub, 1) := by decide +kernel
theorem dX9_moveRow_21 : decode cX9_moveRow 21 = .ok (.iconst 2, 1) := by decide +kernel
theorem dX9_moveRow_22 : decode cX9_moveRow 22 = .ok (.idiv, 1) := by decide +kernel
theorem dX9_moveRow_23 : decode cX9_moveRow 23 = .ok (.istore 4, 2) := by decide +kernel
theorem dX9_moveRow_25 : decode cX9_moveRow 25 = .ok (.aload_n 0, 1) := by decide +kernel
theorem dX9_moveRow_26 : decode cX9_moveRow 26 = .ok (.iload_n 1, 1) := by decide +kernel
theorem dX9_moveRow_27 : decode cX9_moveRow 27 = .ok (.iload_n 2, 1) := by decide +kernel
theorem dX9_moveRow_28 : decode cX9_moveRow 28 = .ok (.iload 4, 2) := by decide +kernel
theorem dX9_moveRow_30 : decode cX9_moveRow 30 = .ok (.invokevirtual 109, 3) := by decide +kernel
theorem dX9_moveRow_33 : decode cX9_moveRow 33 = .ok (.ifCond .ne 9, 3) := by decide +kernel
theorem dX9_moveRow_36 : decode cX9_moveRow 36 = .ok (.iinc 4 (-1), 3) := by decide +kernel
theorem dX9_moveRow_39 : decode cX9_moveRow 39 = .ok (.goto (-14), 3) := by decide +kernel
theorem dX9_moveRow_42 : decode cX9_moveRow 42 = .ok (.iload_n 1, 1) := by decide +kernel
theorem dX9_moveRow_43 : decode cX9_moveRow 43 = .ok (.istore 5, 2) := by decide +kernel
theorem dX9_moveRow_45 : decode cX9_moveRow 45 = .ok (.iload 5, 2) := by decide +kernel
theorem dX9_moveRow_47 : decode cX9_moveRow 47 = .ok (.iload_n 2, 1) := by decide +kernel
theorem dX9_moveRow_48 : decode cX9_moveRow 48 = .ok (.if_icmp .ge 21, 3) := by decide +kernel
theorem dX9_moveRow_51 : decode cX9_moveRow 51 = .ok (.aload_n 0, 1) := by decide +kernel
theorem dX9_moveRow_52 : decode cX9_moveRow 52 = .ok (.getfield 30, 3) := by decide +kernel
theorem dX9_moveRow_55 : decode cX9_moveRow 55 = .ok (.iload 5, 2) := by decide +kernel
theorem dX9_moveRow_57 : decode cX9_moveRow 57 = .ok (.dup2, 1) := by decide +kernel
theorem dX9_moveRow_58 : decode cX9_moveRow 58 = .ok (.iaload, 1) := by decide +kernel
theorem dX9_moveRow_59 : decode cX9_moveRow 59 = .ok (.iload 4, 2) := by decide +kernel
theorem dX9_moveRow_61 : decode cX9_moveRow 61 = .ok (.iadd, 1) := by decide +kernel
theorem dX9_moveRow_62 : decode cX9_moveRow 62 = .ok (.iastore, 1) := by decide +kernel
theorem dX9_moveRow_63 : decode cX9_moveRow 63 = .ok (.iinc 5 1, 3) := by decide +kernel
theorem dX9_moveRow_66 : decode cX9_moveRow 66 = .ok (.goto (-21), 3) := by decide +kernel
theorem dX9_moveRow_69 : decode cX9_moveRow 69 = .ok (.return_, 1) := by decide +kernel
theorem dX9_moveName_0 : decode cX9_moveName 0 = .ok (.iload_n 1, 1) := by decide +kernel
theorem dX9_moveName_1 : decode cX9_moveName 1 = .ok (.istore_n 3, 1) := by decide +kernel
theorem dX9_moveName_2 : decode cX9_moveName 2 = .ok (.iload_n 3, 1) := by decide +kernel
theorem dX9_moveName_3 : decode cX9_moveName 3 = .ok (.iload_n 2, 1) := by decide +kernel
theorem dX9_moveName_4 : decode cX9_moveName 4 = .ok (.if_icmp .ge 47, 3) := by decide +kernel
theorem dX9_moveName_7 : decode cX9_moveName 7 = .ok (.iload_n 3, 1) := by decide +kernel
theorem dX9_moveName_8 : decode cX9_moveName 8 = .ok (.istore 4, 2) := by decide +kernel
theorem dX9_moveName_10 : decode cX9_moveName 10 = .ok (.iload 4, 2) := by decide +kernel
theorem dX9_moveName_12 : decode cX9_moveName 12 = .ok (.iload_n 2, 1) := by decide +kernel
theorem dX9_moveName_13 : decode cX9_moveName 13 = .ok (.if_icmp .ge 25, 3) := by decide +kernel
theorem dX9_moveName_16 : decode cX9_moveName 16 = .ok (.aload_n 0, 1) := by decide +kernel
theorem dX9_moveName_17 : decode cX9_moveName 17 = .ok (.getfield 27, 3) := by decide +kernel
theorem dX9_moveName_20 : decode cX9_moveName 20 = .ok (.iload 4, 2) := by decide +kernel
theorem dX9_moveName_22 : decode cX9_moveName 22 = .ok (.iaload, 1) := by decide +kernel
theorem dX9_moveName_23 : decode cX9_moveName 23 = .ok (.aload_n 0, 1) := by decide +kernel
theorem dX9_moveName_24 : decode cX9_moveName 24 = .ok (.getfield 27, 3) := by decide +kernel
theorem dX9_moveName_27 : decode cX9_moveName 27 = .ok (.iload_n 3, 1) := by decide +kernel
theorem dX9_moveName_28 : decode cX9_moveName 28 = .ok (.iaload, 1) := by decide +kernel
theorem dX9_moveName_29 : decode cX9_moveName 29 = .ok (.if_icmp .ne 9, 3) := by decide +kernel
theorem dX9_moveName_32 : decode cX9_moveName 32 = .ok (.iinc 4 1, 3) := by decide +kernel
theorem dX9_moveName_35 : decode cX9_moveName 35 = .ok (.goto (-25), 3) := by decide +kernel
theorem dX9_moveName_38 : decode cX9_moveName 38 = .ok (.aload_n 0, 1) := by decide +kernel
theorem dX9_moveName_39 : decode cX9_moveName 39 = .ok (.iload_n 3, 1) := by decide +kernel
theorem dX9_moveName_40 : decode cX9_moveName 40 = .ok (.iload 4, 2) := by decide +kernel
theorem dX9_moveName_42 : decode cX9_moveName 42 = .ok (.invokevirtual 112, 3) := by decide +kernel
theorem dX9_moveName_45 : decode cX9_moveName 45 = .ok (.iload 4, 2) := by decide +kernel
theorem dX9_moveName_47 : decode cX9_moveName 47 = .ok (.istore_n 3, 1) := by decide +kernel
theorem dX9_moveName_48 : decode cX9_moveName 48 = .ok (.goto (-46), 3) := by decide +kernel
theorem dX9_moveName_51 : decode cX9_moveName 51 = .ok (.return_, 1) := by decide +kernel
theorem dX9_layPart_0 : decode cX9_layPart 0 = .ok (.aload_n 0, 1) := by decide +kernel
theorem dX9_layPart_1 : decode cX9_layPart 1 = .ok (.iload_n 1, 1) := by decide +kernel
theorem dX9_layPart_2 : decode cX9_layPart 2 = .ok (.invokevirtual 90, 3) := by decide +kernel
theorem dX9_layPart_5 : decode cX9_layPart 5 = .ok (.istore_n 2, 1) := by decide +kernel
theorem dX9_layPart_6 : decode cX9_layPart 6 = .ok (.iload_n 2, 1) := by decide +kernel
theorem dX9_layPart_7 : decode cX9_layPart 7 = .ok (.aload_n 0, 1) := by decide +kernel
theorem dX9_layPart_8 : decode cX9_layPart 8 = .ok (.iload_n 1, 1) := by decide +kernel
theorem dX9_layPart_9 : decode cX9_layPart 9 = .ok (.invokevirtual 86, 3) := by decide +kernel
theorem dX9_layPart_12 : decode cX9_layPart 12 = .ok (.iadd, 1) := by decide +kernel
theorem dX9_layPart_13 : decode cX9_layPart 13 = .ok (.istore_n 3, 1) := by decide +kernel
theorem dX9_layPart_14 : decode cX9_layPart 14 = .ok (.iload_n 2, 1) := by decide +kernel
theorem dX9_layPart_15 : decode cX9_layPart 15 = .ok (.istore 4, 2) := by decide +kernel
theorem dX9_layPart_17 : decode cX9_layPart 17 = .ok (.iload 4, 2) := by decide +kernel
theorem dX9_layPart_19 : decode cX9_layPart 19 = .ok (.iload_n 3, 1) := by decide +kernel
theorem dX9_layPart_20 : decode cX9_layPart 20 = .ok (.if_icmp .ge 73, 3) := by decide +kernel
theorem dX9_layPart_23 : decode cX9_layPart 23 = .ok (.aload_n 0, 1) := by decide +kernel
theorem dX9_layPart_24 : decode cX9_layPart 24 = .ok (.aload_n 0, 1) := by decide +kernel
theorem dX9_layPart_25 : decode cX9_layPart 25 = .ok (.iload 4, 2) := by decide +kernel
theorem dX9_layPart_27 : decode cX9_layPart 27 = .ok (.invokevirtual 106, 3) := by decide +kernel
theorem dX9_layPart_30 : decode cX9_layPart 30 = .ok (.invokevirtual 116, 3) := by decide +kernel
theorem dX9_layPart_33 : decode cX9_layPart 33 = .ok (.ifCond .ne 5, 3) := by decide +kernel
theorem dX9_layPart_36 : decode cX9_layPart 36 = .ok (.iconst 0, 1) := by decide +kernel
theorem dX9_layPart_37 : decode cX9_layPart 37 = .ok (.ireturn, 1) := by decide +kernel
theorem dX9_layPart_38 : decode cX9_layPart 38 = .ok (.aload_n 0, 1) := by decide +kernel
theorem dX9_layPart_39 : decode cX9_layPart 39 = .ok (.getfield 27, 3) := by decide +kernel
theorem dX9_layPart_42 : decode cX9_layPart 42 = .ok (.iload 4, 2) := by decide +kernel
theorem dX9_layPart_44 : decode cX9_layPart 44 = .ok (.aload_n 0, 1) := by decide +kernel
theorem dX9_layPart_45 : decode cX9_layPart 45 = .ok (.getfield 96, 3) := by decide +kernel
theorem dX9_layPart_48 : decode cX9_layPart 48 = .ok (.iastore, 1) := by decide +kernel
theorem dX9_layPart_49 : decode cX9_layPart 49 = .ok (.aload_n 0, 1) := by decide +kernel
theorem dX9_layPart_50 : decode cX9_layPart 50 = .ok (.getfield 30, 3) := by decide +kernel
theorem dX9_layPart_53 : decode cX9_layPart 53 = .ok (.iload 4, 2) := by decide +kernel
theorem dX9_layPart_55 : decode cX9_layPart 55 = .ok (.aload_n 0, 1) := by decide +kernel
theorem dX9_layPart_56 : decode cX9_layPart 56 = .ok (.getfield 99, 3) := by decide +kernel
theorem dX9_layPart_59 : decode cX9_layPart 59 = .ok (.iastore, 1) := by decide +kernel
theorem dX9_layPart_60 : decode cX9_layPart 60 = .ok (.aload_n 0, 1) := by decide +kernel
theorem dX9_layPart_61 : decode cX9_layPart 61 = .ok (.dup, 1) := by decide +kernel
theorem dX9_layPart_62 : decode cX9_layPart 62 = .ok (.getfield 99, 3) := by decide +kernel
theorem dX9_layPart_65 : decode cX9_layPart 65 = .ok (.aload_n 0, 1) := by decide +kernel
theorem dX9_layPart_66 : decode cX9_layPart 66 = .ok (.iload 4, 2) := by decide +kernel
theorem dX9_layPart_68 : decode cX9_layPart 68 = .ok (.invokevirtual 106, 3) := by decide +kernel
theorem dX9_layPart_71 : decode cX9_layPart 71 = .ok (.iconst 1, 1) := by decide +kernel
theorem dX9_layPart_72 : decode cX9_layPart 72 = .ok (.iadd, 1) := by decide +kernel
theorem dX9_layPart_73 : decode cX9_layPart 73 = .ok (.iadd, 1) := by decide +kernel
theorem dX9_layPart_74 : decode cX9_layPart 74 = .ok (.putfield 99, 3) := by decide +kernel
theorem dX9_layPart_77 : decode cX9_layPart 77 = .ok (.aload_n 0, 1) := by decide +kernel
theorem dX9_layPart_78 : decode cX9_layPart 78 = .ok (.dup, 1) := by decide +kernel
theorem dX9_layPart_79 : decode cX9_layPart 79 = .ok (.getfield 120, 3) := by decide +kernel
theorem dX9_layPart_82 : decode cX9_layPart 82 = .ok (.iconst 1, 1) := by decide +kernel
theorem dX9_layPart_83 : decode cX9_layPart 83 = .ok (.iadd, 1) := by decide +kernel
theorem dX9_layPart_84 : decode cX9_layPart 84 = .ok (.putfield 120, 3) := by decide +kernel
theorem dX9_layPart_87 : decode cX9_layPart 87 = .ok (.iinc 4 1, 3) := by decide +kernel
theorem dX9_layPart_90 : decode cX9_layPart 90 = .ok (.goto (-73), 3) := by decide +kernel
theorem dX9_layPart_93 : decode cX9_layPart 93 = .ok (.aload_n 0, 1) := by decide +kernel
theorem dX9_layPart_94 : decode cX9_layPart 94 = .ok (.iload_n 1, 1) := by decide +kernel
theorem dX9_layPart_95 : decode cX9_layPart 95 = .ok (.invokevirtual 123, 3) := by decide +kernel
theorem dX9_layPart_98 : decode cX9_layPart 98 = .ok (.ifCond .ne 9, 3) := by decide +kernel
theorem dX9_layPart_101 : decode cX9_layPart 101 = .ok (.aload_n 0, 1) := by decide +kernel
theorem dX9_layPart_102 : decode cX9_layPart 102 = .ok (.iload_n 2, 1) := by decide +kernel
theorem dX9_layPart_103 : decode cX9_layPart 103 = .ok (.iload_n 3, 1) := by decide +kernel
theorem dX9_layPart_104 : decode cX9_layPart 104 = .ok (.invokevirtual 126, 3) := by decide +kernel
theorem dX9_layPart_107 : decode cX9_layPart 107 = .ok (.aload_n 0, 1) := by decide +kernel
theorem dX9_layPart_108 : decode cX9_layPart 108 = .ok (.dup, 1) := by decide +kernel
theorem dX9_layPart_109 : decode cX9_layPart 109 = .ok (.getfield 96, 3) := by decide +kernel
theorem dX9_layPart_112 : decode cX9_layPart 112 = .ok (.aload_n 0, 1) := by decide +kernel
theorem dX9_layPart_113 : decode cX9_layPart 113 = .ok (.getfield 24, 3) := by decide +kernel
theorem dX9_layPart_116 : decode cX9_layPart 116 = .ok (.iconst 2, 1) := by decide +kernel
theorem dX9_layPart_117 : decode cX9_layPart 117 = .ok (.iaload, 1) := by decide +kernel
theorem dX9_layPart_118 : decode cX9_layPart 118 = .ok (.iconst 1, 1) := by decide +kernel
theorem dX9_layPart_119 : decode cX9_layPart 119 = .ok (.iadd, 1) := by decide +kernel
theorem dX9_layPart_120 : decode cX9_layPart 120 = .ok (.iadd, 1) := by decide +kernel
theorem dX9_layPart_121 : decode cX9_layPart 121 = .ok (.putfield 96, 3) := by decide +kernel
theorem dX9_layPart_124 : decode cX9_layPart 124 = .ok (.aload_n 0, 1) := by decide +kernel
theorem dX9_layPart_125 : decode cX9_layPart 125 = .ok (.iconst 0, 1) := by decide +kernel
theorem dX9_layPart_126 : decode cX9_layPart 126 = .ok (.putfield 99, 3) := by decide +kernel
theorem dX9_layPart_129 : decode cX9_layPart 129 = .ok (.iconst 1, 1) := by decide +kernel
theorem dX9_layPart_130 : decode cX9_layPart 130 = .ok (.ireturn, 1) := by decide +kernel
theorem dX9_lay_0 : decode cX9_lay 0 = .ok (.aload_n 0, 1) := by decide +kernel
theorem dX9_lay_1 : decode cX9_lay 1 = .ok (.iconst 0, 1) := by decide +kernel
theorem dX9_lay_2 : decode cX9_lay 2 = .ok (.putfield 120, 3) := by decide +kernel
theorem dX9_lay_5 : decode cX9_lay 5 = .ok (.aload_n 0, 1) := by decide +kernel
theorem dX9_lay_6 : decode cX9_lay 6 = .ok (.iconst 0, 1) := by decide +kernel
theorem dX9_lay_7 : decode cX9_lay 7 = .ok (.putfield 96, 3) := by decide +kernel
theorem dX9_lay_10 : decode cX9_lay 10 = .ok (.aload_n 0, 1) := by decide +kernel
theorem dX9_lay_11 : decode cX9_lay 11 = .ok (.iconst 0, 1) := by decide +kernel
theorem dX9_lay_12 : decode cX9_lay 12 = .ok (.putfield 99, 3) := by decide +kernel
theorem dX9_lay_15 : decode cX9_lay 15 = .ok (.iconst 0, 1) := by decide +kernel
theorem dX9_lay_16 : decode cX9_lay 16 = .ok (.istore_n 1, 1) := by decide +kernel
theorem dX9_lay_17 : decode cX9_lay 17 = .ok (.iload_n 1, 1) := by decide +kernel
theorem dX9_lay_18 : decode cX9_lay 18 = .ok (.aload_n 0, 1) := by decide +kernel
theorem dX9_lay_19 : decode cX9_lay 19 = .ok (.getfield 24, 3) := by decide +kernel
theorem dX9_lay_22 : decode cX9_lay 22 = .ok (.bipush 9, 2) := by decide +kernel
theorem dX9_lay_24 : decode cX9_lay 24 = .ok (.iaload, 1) := by decide +kernel
theorem dX9_lay_25 : decode cX9_lay 25 = .ok (.if_icmp .ge 22, 3) := by decide +kernel
theorem dX9_lay_28 : decode cX9_lay 28 = .ok (.aload_n 0, 1) := by decide +kernel
theorem dX9_lay_29 : decode cX9_lay 29 = .ok (.iload_n 1, 1) := by decide +kernel
theorem dX9_lay_30 : decode cX9_lay 30 = .ok (.invokevirtual 129, 3) := by decide +kernel
theorem dX9_lay_33 : decode cX9_lay 33 = .ok (.ifCond .ne 8, 3) := by decide +kernel
theorem dX9_lay_36 : decode cX9_lay 36 = .ok (.aload_n 0, 1) := by decide +kernel
theorem dX9_lay_37 : decode cX9_lay 37 = .ok (.getfield 120, 3) := by decide +kernel
theorem dX9_lay_40 : decode cX9_lay 40 = .ok (.ireturn, 1) := by decide +kernel
theorem dX9_lay_41 : decode cX9_lay 41 = .ok (.iinc 1 1, 3) := by decide +kernel
theorem dX9_lay_44 : decode cX9_lay 44 = .ok (.goto (-27), 3) := by decide +kernel
theorem dX9_lay_47 : decode cX9_lay 47 = .ok (.aload_n 0, 1) := by decide +kernel
theorem dX9_lay_48 : decode cX9_lay 48 = .ok (.getfield 120, 3) := by decide +kernel
theorem dX9_lay_51 : decode cX9_lay 51 = .ok (.ireturn, 1) := by decide +kernel
theorem dX9_isTouched_0 : decode cX9_isTouched 0 = .ok (.aload_n 0, 1) := by decide +kernel
theorem dX9_isTouched_1 : decode cX9_isTouched 1 = .ok (.iload_n 1, 1) := by decide +kernel
theorem dX9_isTouched_2 : decode cX9_isTouched 2 = .ok (.iconst 1, 1) := by decide +kernel
theorem dX9_isTouched_3 : decode cX9_isTouched 3 = .ok (.isub, 1) := by decide +kernel
theorem dX9_isTouched_4 : decode cX9_isTouched 4 = .ok (.iload_n 2, 1) := by decide +kernel
theorem dX9_isTouched_5 : decode cX9_isTouched 5 = .ok (.invokevirtual 93, 3) := by decide +kernel
theorem dX9_isTouched_8 : decode cX9_isTouched 8 = .ok (.ifCond .ne 36, 3) := by decide +kernel
theorem dX9_isTouched_11 : decode cX9_isTouched 11 = .ok (.aload_n 0, 1) := by decide +kernel
theorem dX9_isTouched_12 : decode cX9_isTouched 12 = .ok (.iload_n 1, 1) := by decide +kernel
theorem dX9_isTouched_13 : decode cX9_isTouched 13 = .ok (.iconst 1, 1) := by decide +kernel
theorem dX9_isTouched_14 : decode cX9_isTouched 14 = .ok (.iadd, 1) := by decide +kernel
theorem dX9_isTouched_15 : decode cX9_isTouched 15 = .ok (.iload_n 2, 1) := by decide +kernel
theorem dX9_isTouched_16 : decode cX9_isTouched 16 = .ok (.invokevirtual 93, 3) := by decide +kernel
theorem dX9_isTouched_19 : decode cX9_isTouched 19 = .ok (.ifCond .ne 25, 3) := by decide +kernel
theorem dX9_isTouched_22 : decode cX9_isTouched 22 = .ok (.aload_n 0, 1) := by decide +kernel
theorem dX9_isTouched_23 : decode cX9_isTouched 23 = .ok (.iload_n 1, 1) := by decide +kernel
theorem dX9_isTouched_24 : decode cX9_isTouched 24 = .ok (.iload_n 2, 1) := by decide +kernel
theorem dX9_isTouched_25 : decode cX9_isTouched 25 = .ok (.iconst 1, 1) := by decide +kernel
theorem dX9_isTouched_26 : decode cX9_isTouched 26 = .ok (.isub, 1) := by decide +kernel
theorem dX9_isTouched_27 : decode cX9_isTouched 27 = .ok (.invokevirtual 93, 3) := by decide +kernel
theorem dX9_isTouched_30 : decode cX9_isTouched 30 = .ok (.ifCond .ne 14, 3) := by decide +kernel
theorem dX9_isTouched_33 : decode cX9_isTouched 33 = .ok (.aload_n 0, 1) := by decide +kernel
theorem dX9_isTouched_34 : decode cX9_isTouched 34 = .ok (.iload_n 1, 1) := by decide +kernel
theorem dX9_isTouched_35 : decode cX9_isTouched 35 = .ok (.iload_n 2, 1) := by decide +kernel
theorem dX9_isTouched_36 : decode cX9_isTouched 36 = .ok (.iconst 1, 1) := by decide +kernel
theorem dX9_isTouched_37 : decode cX9_isTouched 37 = .ok (.iadd, 1) := by decide +kernel
theorem dX9_isTouched_38 : decode cX9_isTouched 38 = .ok (.invokevirtual 93, 3) := by decide +kernel
theorem dX9_isTouched_41 : decode cX9_isTouched 41 = .ok (.ifCond .eq 7, 3) := by decide +kernel
theorem dX9_isTouched_44 : decode cX9_isTouched 44 = .ok (.iconst 1, 1) := by decide +kernel
theorem dX9_isTouched_45 : decode cX9_isTouched 45 = .ok (.goto 4, 3) := by decide +kernel
theorem dX9_isTouched_48 : decode cX9_isTouched 48 = .ok (.iconst 0, 1) := by decide +kernel
theorem dX9_isTouched_49 : decode cX9_isTouched 49 = .ok (.ireturn, 1) := by decide +kernel
theorem dX9_plainStrokes_0 : decode cX9_plainStrokes 0 = .ok (.iload_n 0, 1) := by decide +kernel
theorem dX9_plainStrokes_1 : decode cX9_plainStrokes 1 = .ok (.bipush 97, 2) := by decide +kernel
theorem dX9_plainStrokes_3 : decode cX9_plainStrokes 3 = .ok (.if_icmp .lt 17, 3) := by decide +kernel
theorem dX9_plainStrokes_6 : decode cX9_plainStrokes 6 = .ok (.iconst 1, 1) := by decide +kernel
theorem dX9_plainStrokes_7 : decode cX9_plainStrokes 7 = .ok (.bipush 7, 2) := by decide +kernel
theorem dX9_plainStrokes_9 : decode cX9_plainStrokes 9 = .ok (.iload_n 0, 1) := by decide +kernel
theorem dX9_plainStrokes_10 : decode cX9_plainStrokes 10 = .ok (.bipush 97, 2) := by decide +kernel
theorem dX9_plainStrokes_12 : decode cX9_plainStrokes 12 = .ok (.isub, 1) := by decide +kernel
theorem dX9_plainStrokes_13 : decode cX9_plainStrokes 13 = .ok (.imul, 1) := by decide +kernel
theorem dX9_plainStrokes_14 : decode cX9_plainStrokes 14 = .ok (.iconst 5, 1) := by decide +kernel
theorem dX9_plainStrokes_15 : decode cX9_plainStrokes 15 = .ok (.irem, 1) := by decide +kernel
theorem dX9_plainStrokes_16 : decode cX9_plainStrokes 16 = .ok (.iadd, 1) := by decide +kernel
theorem dX9_plainStrokes_17 : decode cX9_plainStrokes 17 = .ok (.goto 11, 3) := by decide +kernel
theorem dX9_plainStrokes_20 : decode cX9_plainStrokes 20 = .ok (.iconst 2, 1) := by decide +kernel
theorem dX9_plainStrokes_21 : decode cX9_plainStrokes 21 = .ok (.iload_n 0, 1) := by decide +kernel
theorem dX9_plainStrokes_22 : decode cX9_plainStrokes 22 = .ok (.bipush 48, 2) := by decide +kernel
theorem dX9_plainStrokes_24 : decode cX9_plainStrokes 24 = .ok (.isub, 1) := by decide +kernel
theorem dX9_plainStrokes_25 : decode cX9_plainStrokes 25 = .ok (.iconst 3, 1) := by decide +kernel
theorem dX9_plainStrokes_26 : decode cX9_plainStrokes 26 = .ok (.irem, 1) := by decide +kernel
theorem dX9_plainStrokes_27 : decode cX9_plainStrokes 27 = .ok (.iadd, 1) := by decide +kernel
theorem dX9_plainStrokes_28 : decode cX9_plainStrokes 28 = .ok (.ireturn, 1) := by decide +kernel
theorem dX9_strokesOf_0 : decode cX9_strokesOf 0 = .ok (.aload_n 0, 1) := by decide +kernel
theorem dX9_strokesOf_1 : decode cX9_strokesOf 1 = .ok (.iload_n 1, 1) := by decide +kernel
theorem dX9_strokesOf_2 : decode cX9_strokesOf 2 = .ok (.iload_n 2, 1) := by decide +kernel
theorem dX9_strokesOf_3 : decode cX9_strokesOf 3 = .ok (.invokevirtual 132, 3) := by decide +kernel
theorem dX9_strokesOf_6 : decode cX9_strokesOf 6 = .ok (.invokestatic 136, 3) := by decide +kernel
theorem dX9_strokesOf_9 : decode cX9_strokesOf 9 = .ok (.istore_n 3, 1) := by decide +kernel
theorem dX9_strokesOf_10 : decode cX9_strokesOf 10 = .ok (.aload_n 0, 1) := by decide +kernel
theorem dX9_strokesOf_11 : decode cX9_strokesOf 11 = .ok (.aload_n 0, 1) := by decide +kernel
theorem dX9_strokesOf_12 : decode cX9_strokesOf 12 = .ok (.getfield 30, 3) := by decide +kernel
theorem dX9_strokesOf_15 : decode cX9_strokesOf 15 = .ok (.iload_n 1, 1) := by decide +kernel
theorem dX9_strokesOf_16 : decode cX9_strokesOf 16 = .ok (.iaload, 1) := by decide +kernel
theorem dX9_strokesOf_17 : decode cX9_strokesOf 17 = .ok (.iload_n 2, 1) := by decide +kernel
theorem dX9_strokesOf_18 : decode cX9_strokesOf 18 = .ok (.iadd, 1) := by decide +kernel
theorem dX9_strokesOf_19 : decode cX9_strokesOf 19 = .ok (.aload_n 0, 1) := by decide +kernel
theorem dX9_strokesOf_20 : decode cX9_strokesOf 20 = .ok (.getfield 27, 3) := by decide +kernel
theorem dX9_strokesOf_23 : decode cX9_strokesOf 23 = .ok (.iload_n 1, 1) := by decide +kernel
theorem dX9_strokesOf_24 : decode cX9_strokesOf 24 = .ok (.iaload, 1) := by decide +kernel
theorem dX9_strokesOf_25 : decode cX9_strokesOf 25 = .ok (.invokevirtual 139, 3) := by decide +kernel
theorem dX9_strokesOf_28 : decode cX9_strokesOf 28 = .ok (.ifCond .eq 9, 3) := by decide +kernel
theorem dX9_strokesOf_31 : decode cX9_strokesOf 31 = .ok (.iconst 2, 1) := by decide +kernel
theorem dX9_strokesOf_32 : decode cX9_strokesOf 32 = .ok (.iload_n 3, 1) := by decide +kernel
theorem dX9_strokesOf_33 : decode cX9_strokesOf 33 = .ok (.imul, 1) := by decide +kernel
theorem dX9_strokesOf_34 : decode cX9_strokesOf 34 = .ok (.goto 4, 3) := by decide +kernel
theorem dX9_strokesOf_37 : decode cX9_strokesOf 37 = .ok (.iload_n 3, 1) := by decide +kernel
theorem dX9_strokesOf_38 : decode cX9_strokesOf 38 = .ok (.ireturn, 1) := by decide +kernel
theorem dX9_strokesOfWord_0 : decode cX9_strokesOfWord 0 = .ok (.iconst 0, 1) := by decide +kernel
theorem dX9_strokesOfWord_1 : decode cX9_strokesOfWord 1 = .ok (.istore_n 2, 1) := by decide +kernel
theorem dX9_strokesOfWord_2 : decode cX9_strokesOfWord 2 = .ok (.iconst 0, 1) := by decide +kernel
theorem dX9_strokesOfWord_3 : decode cX9_strokesOfWord 3 = .ok (.istore_n 3, 1) := by decide +kernel
theorem dX9_strokesOfWord_4 : decode cX9_strokesOfWord 4 = .ok (.iload_n 3, 1) := by decide +kernel
theorem dX9_strokesOfWord_5 : decode cX9_strokesOfWord 5 = .ok (.aload_n 0, 1) := by decide +kernel
theorem dX9_strokesOfWord_6 : decode cX9_strokesOfWord 6 = .ok (.iload_n 1, 1) := by decide +kernel
theorem dX9_strokesOfWord_7 : decode cX9_strokesOfWord 7 = .ok (.invokevirtual 106, 3) := by decide +kernel
theorem dX9_strokesOfWord_10 : decode cX9_strokesOfWord 10 = .ok (.if_icmp .ge 18, 3) := by decide +kernel
theorem dX9_strokesOfWord_13 : decode cX9_strokesOfWord 13 = .ok (.iload_n 2, 1) := by decide +kernel
theorem dX9_strokesOfWord_14 : decode cX9_strokesOfWord 14 = .ok (.aload_n 0, 1) := by decide +kernel
theorem dX9_strokesOfWord_15 : decode cX9_strokesOfWord 15 = .ok (.iload_n 1, 1) := by decide +kernel
theorem dX9_strokesOfWord_16 : decode cX9_strokesOfWord 16 = .ok (.iload_n 3, 1) := by decide +kernel
theorem dX9_strokesOfWord_17 : decode cX9_strokesOfWord 17 = .ok (.invokevirtual 142, 3) := by decide +kernel
theorem dX9_strokesOfWord_20 : decode cX9_strokesOfWord 20 = .ok (.iadd, 1) := by decide +kernel
theorem dX9_strokesOfWord_21 : decode cX9_strokesOfWord 21 = .ok (.istore_n 2, 1) := by decide +kernel
theorem dX9_strokesOfWord_22 : decode cX9_strokesOfWord 22 = .ok (.iinc 3 1, 3) := by decide +kernel
theorem dX9_strokesOfWord_25 : decode cX9_strokesOfWord 25 = .ok (.goto (-21), 3) := by decide +kernel
theorem dX9_strokesOfWord_28 : decode cX9_strokesOfWord 28 = .ok (.iload_n 2, 1) := by decide +kernel
theorem dX9_strokesOfWord_29 : decode cX9_strokesOfWord 29 = .ok (.ireturn, 1) := by decide +kernel
theorem dX9_lettersAhead_0 : decode cX9_lettersAhead 0 = .ok (.iconst 0, 1) := by decide +kernel
theorem dX9_lettersAhead_1 : decode cX9_lettersAhead 1 = .ok (.istore_n 2, 1) := by decide +kernel
theorem dX9_lettersAhead_2 : decode cX9_lettersAhead 2 = .ok (.iconst 0, 1) := by decide +kernel
theorem dX9_lettersAhead_3 : decode cX9_lettersAhead 3 = .ok (.istore_n 3, 1) := by decide +kernel
theorem dX9_lettersAhead_4 : decode cX9_lettersAhead 4 = .ok (.iload_n 3, 1) := by decide +kernel
theorem dX9_lettersAhead_5 : decode cX9_lettersAhead 5 = .ok (.iload_n 1, 1) := by decide +kernel
theorem dX9_lettersAhead_6 : decode cX9_lettersAhead 6 = .ok (.if_icmp .ge 17, 3) := by decide +kernel
theorem dX9_lettersAhead_9 : decode cX9_lettersAhead 9 = .ok (.iload_n 2, 1) := by decide +kernel
theorem dX9_lettersAhead_10 : decode cX9_lettersAhead 10 = .ok (.aload_n 0, 1) := by decide +kernel
theorem dX9_lettersAhead_11 : decode cX9_lettersAhead 11 = .ok (.iload_n 3, 1) := by decide +kernel
theorem dX9_lettersAhead_12 : decode cX9_lettersAhead 12 = .ok (.invokevirtual 106, 3) := by decide +kernel
theorem dX9_lettersAhead_15 : decode cX9_lettersAhead 15 = .ok (.iadd, 1) := by decide +kernel
theorem dX9_lettersAhead_16 : decode cX9_lettersAhead 16 = .ok (.istore_n 2, 1) := by decide +kernel
theorem dX9_lettersAhead_17 : decode cX9_lettersAhead 17 = .ok (.iinc 3 1, 3) := by decide +kernel
theorem dX9_lettersAhead_20 : decode cX9_lettersAhead 20 = .ok (.goto (-16), 3) := by decide +kernel
theorem dX9_lettersAhead_23 : decode cX9_lettersAhead 23 = .ok (.iload_n 2, 1) := by decide +kernel
theorem dX9_lettersAhead_24 : decode cX9_lettersAhead 24 = .ok (.ireturn, 1) := by decide +kernel
theorem dX9_letters_0 : decode cX9_letters 0 = .ok (.aload_n 0, 1) := by decide +kernel
theorem dX9_letters_1 : decode cX9_letters 1 = .ok (.aload_n 0, 1) := by decide +kernel
theorem dX9_letters_2 : decode cX9_letters 2 = .ok (.getfield 120, 3) := by decide +kernel
theorem dX9_letters_5 : decode cX9_letters 5 = .ok (.invokevirtual 145, 3) := by decide +kernel
theorem dX9_letters_8 : decode cX9_letters 8 = .ok (.ireturn, 1) := by decide +kernel
theorem dX9_wordOfLetter_0 : decode cX9_wordOfLetter 0 = .ok (.iconst 0, 1) := by decide +kernel
theorem dX9_wordOfLetter_1 : decode cX9_wordOfLetter 1 = .ok (.istore_n 2, 1) := by decide +kernel
theorem dX9_wordOfLetter_2 : decode cX9_wordOfLetter 2 = .ok (.aload_n 0, 1) := by decide +kernel
theorem dX9_wordOfLetter_3 : decode cX9_wordOfLetter 3 = .ok (.iload_n 2, 1) := by decide +kernel
theorem dX9_wordOfLetter_4 : decode cX9_wordOfLetter 4 = .ok (.iconst 1, 1) := by decide +kernel
theorem dX9_wordOfLetter_5 : decode cX9_wordOfLetter 5 = .ok (.iadd, 1) := by decide +kernel
theorem dX9_wordOfLetter_6 : decode cX9_wordOfLetter 6 = .ok (.invokevirtual 145, 3) := by decide +kernel
theorem dX9_wordOfLetter_9 : decode cX9_wordOfLetter 9 = .ok (.iload_n 1, 1) := by decide +kernel
theorem dX9_wordOfLetter_10 : decode cX9_wordOfLetter 10 = .ok (.if_icmp .gt 9, 3) := by decide +kernel
theorem dX9_wordOfLetter_13 : decode cX9_wordOfLetter 13 = .ok (.iinc 2 1, 3) := by decide +kernel
theorem dX9_wordOfLetter_16 : decode cX9_wordOfLetter 16 = .ok (.goto (-14), 3) := by decide +kernel
theorem dX9_wordOfLetter_19 : decode cX9_wordOfLetter 19 = .ok (.iload_n 2, 1) := by decide +kernel
theorem dX9_wordOfLetter_20 : decode cX9_wordOfLetter 20 = .ok (.ireturn, 1) := by decide +kernel
theorem dX9_strokesOfLetter_0 : decode cX9_strokesOfLetter 0 = .ok (.aload_n 0, 1) := by decide +kernel
theorem dX9_strokesOfLetter_1 : decode cX9_strokesOfLetter 1 = .ok (.iload_n 1, 1) := by decide +kernel
theorem dX9_strokesOfLetter_2 : decode cX9_strokesOfLetter 2 = .ok (.invokevirtual 148, 3) := by decide +kernel
theorem dX9_strokesOfLetter_5 : decode cX9_strokesOfLetter 5 = .ok (.istore_n 2, 1) := by decide +kernel
theorem dX9_strokesOfLetter_6 : decode cX9_strokesOfLetter 6 = .ok (.aload_n 0, 1) := by decide +kernel
theorem dX9_strokesOfLetter_7 : decode cX9_strokesOfLetter 7 = .ok (.iload_n 2, 1) := by decide +kernel
theorem dX9_strokesOfLetter_8 : decode cX9_strokesOfLetter 8 = .ok (.iload_n 1, 1) := by decide +kernel
theorem dX9_strokesOfLetter_9 : decode cX9_strokesOfLetter 9 = .ok (.aload_n 0, 1) := by decide +kernel
theorem dX9_strokesOfLetter_10 : decode cX9_strokesOfLetter 10 = .ok (.iload_n 2, 1) := by decide +kernel
theorem dX9_strokesOfLetter_11 : decode cX9_strokesOfLetter 11 = .ok (.invokevirtual 145, 3) := by decide +kernel
theorem dX9_strokesOfLetter_14 : decode cX9_strokesOfLetter 14 = .ok (.isub, 1) := by decide +kernel
theorem dX9_strokesOfLetter_15 : decode cX9_strokesOfLetter 15 = .ok (.invokevirtual 142, 3) := by decide +kernel
theorem dX9_strokesOfLetter_18 : decode cX9_strokesOfLetter 18 = .ok (.ireturn, 1) := by decide +kernel
theorem dX9_wordIn_0 : decode cX9_wordIn 0 = .ok (.iconst 0, 1) := by decide +kernel
theorem dX9_wordIn_1 : decode cX9_wordIn 1 = .ok (.istore_n 3, 1) := by decide +kernel
theorem dX9_wordIn_2 : decode cX9_wordIn 2 = .ok (.iload_n 3, 1) := by decide +kernel
theorem dX9_wordIn_3 : decode cX9_wordIn 3 = .ok (.aload_n 0, 1) := by decide +kernel
theorem dX9_wordIn_4 : decode cX9_wordIn 4 = .ok (.getfield 120, 3) := by decide +kernel
theorem dX9_wordIn_7 : decode cX9_wordIn 7 = .ok (.if_icmp .ge 51, 3) := by decide +kernel
theorem dX9_wordIn_10 : decode cX9_wordIn 10 = .ok (.aload_n 0, 1) := by decide +kernel
theorem dX9_wordIn_11 : decode cX9_wordIn 11 = .ok (.getfield 27, 3) := by decide +kernel
theorem dX9_wordIn_14 : decode cX9_wordIn 14 = .ok (.iload_n 3, 1) := by decide +kernel
theorem dX9_wordIn_15 : decode cX9_wordIn 15 = .ok (.iaload, 1) := by decide +kernel
theorem dX9_wordIn_16 : decode cX9_wordIn 16 = .ok (.iload_n 2, 1) := by decide +kernel
theorem dX9_wordIn_17 : decode cX9_wordIn 17 = .ok (.if_icmp .ne 35, 3) := by decide +kernel
theorem dX9_wordIn_20 : decode cX9_wordIn 20 = .ok (.iload_n 1, 1) := by decide +kernel
theorem dX9_wordIn_21 : decode cX9_wordIn 21 = .ok (.i2l, 1) := by decide +kernel
theorem dX9_wordIn_22 : decode cX9_wordIn 22 = .ok (.aload_n 0, 1) := by decide +kernel
theorem dX9_wordIn_23 : decode cX9_wordIn 23 = .ok (.getfield 30, 3) := by decide +kernel
theorem dX9_wordIn_26 : decode cX9_wordIn 26 = .ok (.iload_n 3, 1) := by decide +kernel
theorem dX9_wordIn_27 : decode cX9_wordIn 27 = .ok (.iaload, 1) := by decide +kernel
theorem dX9_wordIn_28 : decode cX9_wordIn 28 = .ok (.i2l, 1) := by decide +kernel
theorem dX9_wordIn_29 : decode cX9_wordIn 29 = .ok (.aload_n 0, 1) := by decide +kernel
theorem dX9_wordIn_30 : decode cX9_wordIn 30 = .ok (.getfield 30, 3) := by decide +kernel
theorem dX9_wordIn_33 : decode cX9_wordIn 33 = .ok (.iload_n 3, 1) := by decide +kernel
theorem dX9_wordIn_34 : decode cX9_wordIn 34 = .ok (.iaload, 1) := by decide +kernel
theorem dX9_wordIn_35 : decode cX9_wordIn 35 = .ok (.aload_n 0, 1) := by decide +kernel
theorem dX9_wordIn_36 : decode cX9_wordIn 36 = .ok (.iload_n 3, 1) := by decide +kernel
theorem dX9_wordIn_37 : decode cX9_wordIn 37 = .ok (.invokevirtual 106, 3) := by decide +kernel
theorem dX9_wordIn_40 : decode cX9_wordIn 40 = .ok (.iadd, 1) := by decide +kernel
theorem dX9_wordIn_41 : decode cX9_wordIn 41 = .ok (.iconst 1, 1) := by decide +kernel
theorem dX9_wordIn_42 : decode cX9_wordIn 42 = .ok (.isub, 1) := by decide +kernel
theorem dX9_wordIn_43 : decode cX9_wordIn 43 = .ok (.i2l, 1) := by decide +kernel
theorem dX9_wordIn_44 : decode cX9_wordIn 44 = .ok (.invokestatic 75, 3) := by decide +kernel
theorem dX9_wordIn_47 : decode cX9_wordIn 47 = .ok (.ifCond .eq 5, 3) := by decide +kernel
theorem dX9_wordIn_50 : decode cX9_wordIn 50 = .ok (.iload_n 3, 1) := by decide +kernel
theorem dX9_wordIn_51 : decode cX9_wordIn 51 = .ok (.ireturn, 1) := by decide +kernel
theorem dX9_wordIn_52 : decode cX9_wordIn 52 = .ok (.iinc 3 1, 3) := by decide +kernel
theorem dX9_wordIn_55 : decode cX9_wordIn 55 = .ok (.goto (-53), 3) := by decide +kernel
theorem dX9_wordIn_58 : decode cX9_wordIn 58 = .ok (.iconst (-1), 1) := by decide +kernel
theorem dX9_wordIn_59 : decode cX9_wordIn 59 = .ok (.ireturn, 1) := by decide +kernel
theorem dX9_timeForLetter_0 : decode cX9_timeForLetter 0 = .ok (.aload_n 0, 1) := by decide +kernel
theorem dX9_timeForLetter_1 : decode cX9_timeForLetter 1 = .ok (.iload_n 1, 1) := by decide +kernel
theorem dX9_timeForLetter_2 : decode cX9_timeForLetter 2 = .ok (.invokevirtual 151, 3) := by decide +kernel
theorem dX9_timeForLetter_5 : decode cX9_timeForLetter 5 = .ok (.istore_n 3, 1) := by decide +kernel
theorem dX9_timeForLetter_6 : decode cX9_timeForLetter 6 = .ok (.iload_n 3, 1) := by decide +kernel
theorem dX9_timeForLetter_7 : decode cX9_timeForLetter 7 = .ok (.istore 4, 2) := by decide +kernel
theorem dX9_timeForLetter_9 : decode cX9_timeForLetter 9 = .ok (.aload_n 0, 1) := by decide +kernel
theorem dX9_timeForLetter_10 : decode cX9_timeForLetter 10 = .ok (.getfield 154, 3) := by decide +kernel
theorem dX9_timeForLetter_13 : decode cX9_timeForLetter 13 = .ok (.iload_n 3, 1) := by decide +kernel
theorem dX9_timeForLetter_14 : decode cX9_timeForLetter 14 = .ok (.if_icmp .ge 37, 3) := by decide +kernel
theorem dX9_timeForLetter_17 : decode cX9_timeForLetter 17 = .ok (.aload_n 0, 1) := by decide +kernel
theorem dX9_timeForLetter_18 : decode cX9_timeForLetter 18 = .ok (.getfield 154, 3) := by decide +kernel
theorem dX9_timeForLetter_21 : decode cX9_timeForLetter 21 = .ok (.iload_n 2, 1) := by decide +kernel
theorem dX9_timeForLetter_22 : decode cX9_timeForLetter 22 = .ok (.if_icmp .ge 29, 3) := by decide +kernel
theorem dX9_timeForLetter_25 : decode cX9_timeForLetter 25 = .ok (.aload_n 0, 1) := by decide +kernel
theorem dX9_timeForLetter_26 : decode cX9_timeForLetter 26 = .ok (.iload_n 2, 1) := by decide +kernel
theorem dX9_timeForLetter_27 : decode cX9_timeForLetter 27 = .ok (.putfield 154, 3) := by decide +kernel
theorem dX9_timeForLetter_30 : decode cX9_timeForLetter 30 = .ok (.aload_n 0, 1) := by decide +kernel
theorem dX9_timeForLetter_31 : decode cX9_timeForLetter 31 = .ok (.dup, 1) := by decide +kernel
theorem dX9_timeForLetter_32 : decode cX9_timeForLetter 32 = .ok (.getfield 157, 3) := by decide +kernel
theorem dX9_timeForLetter_35 : decode cX9_timeForLetter 35 = .ok (.iconst 1, 1) := by decide +kernel
theorem dX9_timeForLetter_36 : decode cX9_timeForLetter 36 = .ok (.iadd, 1) := by decide +kernel
theorem dX9_timeForLetter_37 : decode cX9_timeForLetter 37 = .ok (.putfield 157, 3) := by decide +kernel
theorem dX9_timeForLetter_40 : decode cX9_timeForLetter 40 = .ok (.iload 4, 2) := by decide +kernel
theorem dX9_timeForLetter_42 : decode cX9_timeForLetter 42 = .ok (.aload_n 0, 1) := by decide +kernel
theorem dX9_timeForLetter_43 : decode cX9_timeForLetter 43 = .ok (.getfield 24, 3) := by decide +kernel
theorem dX9_timeForLetter_46 : decode cX9_timeForLetter 46 = .ok (.iconst 4, 1) := by decide +kernel
theorem dX9_timeForLetter_47 : decode cX9_timeForLetter 47 = .ok (.iaload, 1) := by decide +kernel
theorem dX9_timeForLetter_48 : decode cX9_timeForLetter 48 = .ok (.iadd, 1) := by decide +kernel
theorem dX9_timeForLetter_49 : decode cX9_timeForLetter 49 = .ok (.istore 4, 2) := by decide +kernel
theorem dX9_timeForLetter_51 : decode cX9_timeForLetter 51 = .ok (.aload_n 0, 1) := by decide +kernel
theorem dX9_timeForLetter_52 : decode cX9_timeForLetter 52 = .ok (.iconst 0, 1) := by decide +kernel
theorem dX9_timeForLetter_53 : decode cX9_timeForLetter 53 = .ok (.aload_n 0, 1) := by decide +kernel
theorem dX9_timeForLetter_54 : decode cX9_timeForLetter 54 = .ok (.getfield 154, 3) := by decide +kernel
theorem dX9_timeForLetter_57 : decode cX9_timeForLetter 57 = .ok (.iload_n 3, 1) := by decide +kernel
theorem dX9_timeForLetter_58 : decode cX9_timeForLetter 58 = .ok (.isub, 1) := by decide +kernel
theorem dX9_timeForLetter_59 : decode cX9_timeForLetter 59 = .ok (.invokestatic 160, 3) := by decide +kernel
theorem dX9_timeForLetter_62 : decode cX9_timeForLetter 62 = .ok (.putfield 154, 3) := by decide +kernel
theorem dX9_timeForLetter_65 : decode cX9_timeForLetter 65 = .ok (.iload 4, 2) := by decide +kernel
theorem dX9_timeForLetter_67 : decode cX9_timeForLetter 67 = .ok (.ireturn, 1) := by decide +kernel
theorem dX9_timeFromTo_0 : decode cX9_timeFromTo 0 = .ok (.aload_n 0, 1) := by decide +kernel
theorem dX9_timeFromTo_1 : decode cX9_timeFromTo 1 = .ok (.aload_n 0, 1) := by decide +kernel
theorem dX9_timeFromTo_2 : decode cX9_timeFromTo 2 = .ok (.getfield 24, 3) := by decide +kernel
theorem dX9_timeFromTo_5 : decode cX9_timeFromTo 5 = .ok (.iconst 5, 1) := by decide +kernel
theorem dX9_timeFromTo_6 : decode cX9_timeFromTo 6 = .ok (.iaload, 1) := by decide +kernel
theorem dX9_timeFromTo_7 : decode cX9_timeFromTo 7 = .ok (.putfield 154, 3) := by decide +kernel
theorem dX9_timeFromTo_10 : decode cX9_timeFromTo 10 = .ok (.aload_n 0, 1) := by decide +kernel
theorem dX9_timeFromTo_11 : decode cX9_timeFromTo 11 = .ok (.iconst 0, 1) := by decide +kernel
theorem dX9_timeFromTo_12 : decode cX9_timeFromTo 12 = .ok (.putfield 157, 3) := by decide +kernel
theorem dX9_timeFromTo_15 : decode cX9_timeFromTo 15 = .ok (.iconst 0, 1) := by decide +kernel
theorem dX9_timeFromTo_16 : decode cX9_timeFromTo 16 = .ok (.istore_n 3, 1) := by decide +kernel
theorem dX9_timeFromTo_17 : decode cX9_timeFromTo 17 = .ok (.iload_n 1, 1) := by decide +kernel
theorem dX9_timeFromTo_18 : decode cX9_timeFromTo 18 = .ok (.istore 4, 2) := by decide +kernel
theorem dX9_timeFromTo_20 : decode cX9_timeFromTo 20 = .ok (.iload 4, 2) := by decide +kernel
theorem dX9_timeFromTo_22 : decode cX9_timeFromTo 22 = .ok (.iload_n 2, 1) := by decide +kernel
theorem dX9_timeFromTo_23 : decode cX9_timeFromTo 23 = .ok (.if_icmp .ge 24, 3) := by decide +kernel
theorem dX9_timeFromTo_26 : decode cX9_timeFromTo 26 = .ok (.iload_n 3, 1) := by decide +kernel
theorem dX9_timeFromTo_27 : decode cX9_timeFromTo 27 = .ok (.aload_n 0, 1) := by decide +kernel
theorem dX9_timeFromTo_28 : decode cX9_timeFromTo 28 = .ok (.iload 4, 2) := by decide +kernel
theorem dX9_timeFromTo_30 : decode cX9_timeFromTo 30 = .ok (.aload_n 0, 1) := by decide +kernel
theorem dX9_timeFromTo_31 : decode cX9_timeFromTo 31 = .ok (.getfield 24, 3) := by decide +kernel
theorem dX9_timeFromTo_34 : decode cX9_timeFromTo 34 = .ok (.iconst 3, 1) := by decide +kernel
theorem dX9_timeFromTo_35 : decode cX9_timeFromTo 35 = .ok (.iaload, 1) := by decide +kernel
theorem dX9_timeFromTo_36 : decode cX9_timeFromTo 36 = .ok (.invokevirtual 165, 3) := by decide +kernel
theorem dX9_timeFromTo_39 : decode cX9_timeFromTo 39 = .ok (.iadd, 1) := by decide +kernel
theorem dX9_timeFromTo_40 : decode cX9_timeFromTo 40 = .ok (.istore_n 3, 1) := by decide +kernel
theorem dX9_timeFromTo_41 : decode cX9_timeFromTo 41 = .ok (.iinc 4 1, 3) := by decide +kernel
theorem dX9_timeFromTo_44 : decode cX9_timeFromTo 44 = .ok (.goto (-24), 3) := by decide +kernel
theorem dX9_timeFromTo_47 : decode cX9_timeFromTo 47 = .ok (.iload_n 3, 1) := by decide +kernel
theorem dX9_timeFromTo_48 : decode cX9_timeFromTo 48 = .ok (.ireturn, 1) := by decide +kernel
theorem dX9_keepAside_0 : decode cX9_keepAside 0 = .ok (.iconst 0, 1) := by decide +kernel
theorem dX9_keepAside_1 : decode cX9_keepAside 1 = .ok (.istore_n 1, 1) := by decide +kernel
theorem dX9_keepAside_2 : decode cX9_keepAside 2 = .ok (.iload_n 1, 1) := by decide +kernel
theorem dX9_keepAside_3 : decode cX9_keepAside 3 = .ok (.sipush 1099, 3) := by decide +kernel
theorem dX9_keepAside_6 : decode cX9_keepAside 6 = .ok (.if_icmp .ge 21, 3) := by decide +kernel
theorem dX9_keepAside_9 : decode cX9_keepAside 9 = .ok (.aload_n 0, 1) := by decide +kernel
theorem dX9_keepAside_10 : decode cX9_keepAside 10 = .ok (.getfield 33, 3) := by decide +kernel
theorem dX9_keepAside_13 : decode cX9_keepAside 13 = .ok (.iload_n 1, 1) := by decide +kernel
theorem dX9_keepAside_14 : decode cX9_keepAside 14 = .ok (.aload_n 0, 1) := by decide +kernel
theorem dX9_keepAside_15 : decode cX9_keepAside 15 = .ok (.getfield 17, 3) := by decide +kernel
theorem dX9_keepAside_18 : decode cX9_keepAside 18 = .ok (.iload_n 1, 1) := by decide +kernel
theorem dX9_keepAside_19 : decode cX9_keepAside 19 = .ok (.iaload, 1) := by decide +kernel
theorem dX9_keepAside_20 : decode cX9_keepAside 20 = .ok (.iastore, 1) := by decide +kernel
theorem dX9_keepAside_21 : decode cX9_keepAside 21 = .ok (.iinc 1 1, 3) := by decide +kernel
theorem dX9_keepAside_24 : decode cX9_keepAside 24 = .ok (.goto (-22), 3) := by decide +kernel
theorem dX9_keepAside_27 : decode cX9_keepAside 27 = .ok (.return_, 1) := by decide +kernel
theorem dX9_layBack_0 : decode cX9_layBack 0 = .ok (.iconst 0, 1) := by decide +kernel
theorem dX9_layBack_1 : decode cX9_layBack 1 = .ok (.istore_n 2, 1) := by decide +kernel
theorem dX9_layBack_2 : decode cX9_layBack 2 = .ok (.iload_n 2, 1) := by decide +kernel
theorem dX9_layBack_3 : decode cX9_layBack 3 = .ok (.sipush 1099, 3) := by decide +kernel
theorem dX9_layBack_6 : decode cX9_layBack 6 = .ok (.if_icmp .ge 21, 3) := by decide +kernel
theorem dX9_layBack_9 : decode cX9_layBack 9 = .ok (.aload_n 0, 1) := by decide +kernel
theorem dX9_layBack_10 : decode cX9_layBack 10 = .ok (.getfield 17, 3) := by decide +kernel
theorem dX9_layBack_13 : decode cX9_layBack 13 = .ok (.iload_n 2, 1) := by decide +kernel
theorem dX9_layBack_14 : decode cX9_layBack 14 = .ok (.aload_n 0, 1) := by decide +kernel
theorem dX9_layBack_15 : decode cX9_layBack 15 = .ok (.getfield 33, 3) := by decide +kernel
theorem dX9_layBack_18 : decode cX9_layBack 18 = .ok (.iload_n 2, 1) := by decide +kernel
theorem dX9_layBack_19 : decode cX9_layBack 19 = .ok (.iaload, 1) := by decide +kernel
theorem dX9_layBack_20 : decode cX9_layBack 20 = .ok (.iastore, 1) := by decide +kernel
theorem dX9_layBack_21 : decode cX9_layBack 21 = .ok (.iinc 2 1, 3) := by decide +kernel
theorem dX9_layBack_24 : decode cX9_layBack 24 = .ok (.goto (-22), 3) := by decide +kernel
theorem dX9_layBack_27 : decode cX9_layBack 27 = .ok (.iload_n 1, 1) := by decide +kernel
theorem dX9_layBack_28 : decode cX9_layBack 28 = .ok (.ireturn, 1) := by decide +kernel
theorem dX9_turn_0 : decode cX9_turn 0 = .ok (.iconst 0, 1) := by decide +kernel
theorem dX9_turn_1 : decode cX9_turn 1 = .ok (.istore_n 1, 1) := by decide +kernel
theorem dX9_turn_2 : decode cX9_turn 2 = .ok (.iload_n 1, 1) := by decide +kernel
theorem dX9_turn_3 : decode cX9_turn 3 = .ok (.aload_n 0, 1) := by decide +kernel
theorem dX9_turn_4 : decode cX9_turn 4 = .ok (.invokevirtual 79, 3) := by decide +kernel
theorem dX9_turn_7 : decode cX9_turn 7 = .ok (.if_icmp .ge 96, 3) := by decide +kernel
theorem dX9_turn_10 : decode cX9_turn 10 = .ok (.iconst 0, 1) := by decide +kernel
theorem dX9_turn_11 : decode cX9_turn 11 = .ok (.istore_n 2, 1) := by decide +kernel
theorem dX9_turn_12 : decode cX9_turn 12 = .ok (.iload_n 2, 1) := by decide +kernel
theorem dX9_turn_13 : decode cX9_turn 13 = .ok (.aload_n 0, 1) := by decide +kernel
theorem dX9_turn_14 : decode cX9_turn 14 = .ok (.invokevirtual 71, 3) := by decide +kernel
theorem dX9_turn_17 : decode cX9_turn 17 = .ok (.if_icmp .ge 80, 3) := by decide +kernel
theorem dX9_turn_20 : decode cX9_turn 20 = .ok (.bipush 11, 2) := by decide +kernel
theorem dX9_turn_22 : decode cX9_turn 22 = .ok (.bipush 24, 2) := by decide +kernel
theorem dX9_turn_24 : decode cX9_turn 24 = .ok (.aload_n 0, 1) := by decide +kernel
theorem dX9_turn_25 : decode cX9_turn 25 = .ok (.invokevirtual 79, 3) := by decide +kernel
theorem dX9_turn_28 : decode cX9_turn 28 = .ok (.iconst 1, 1) := by decide +kernel
theorem dX9_turn_29 : decode cX9_turn 29 = .ok (.isub, 1) := by decide +kernel
theorem dX9_turn_30 : decode cX9_turn 30 = .ok (.iload_n 1, 1) := by decide +kernel
theorem dX9_turn_31 : decode cX9_turn 31 = .ok (.isub, 1) := by decide +kernel
theorem dX9_turn_32 : decode cX9_turn 32 = .ok (.imul, 1) := by decide +kernel
theorem dX9_turn_33 : decode cX9_turn 33 = .ok (.iadd, 1) := by decide +kernel
theorem dX9_turn_34 : decode cX9_turn 34 = .ok (.aload_n 0, 1) := by decide +kernel
theorem dX9_turn_35 : decode cX9_turn 35 = .ok (.invokevirtual 71, 3) := by decide +kernel
theorem dX9_turn_38 : decode cX9_turn 38 = .ok (.iadd, 1) := by decide +kernel
theorem dX9_turn_39 : decode cX9_turn 39 = .ok (.iconst 1, 1) := by decide +kernel
theorem dX9_turn_40 : decode cX9_turn 40 = .ok (.isub, 1) := by decide +kernel
theorem dX9_turn_41 : decode cX9_turn 41 = .ok (.iload_n 2, 1) := by decide +kernel
theorem dX9_turn_42 : decode cX9_turn 42 = .ok (.isub, 1) := by decide +kernel
theorem dX9_turn_43 : decode cX9_turn 43 = .ok (.istore_n 3, 1) := by decide +kernel
theorem dX9_turn_44 : decode cX9_turn 44 = .ok (.bipush 11, 2) := by decide +kernel
theorem dX9_turn_46 : decode cX9_turn 46 = .ok (.bipush 24, 2) := by decide +kernel
theorem dX9_turn_48 : decode cX9_turn 48 = .ok (.iload_n 1, 1) := by decide +kernel
theorem dX9_turn_49 : decode cX9_turn 49 = .ok (.imul, 1) := by decide +kernel
theorem dX9_turn_50 : decode cX9_turn 50 = .ok (.iadd, 1) := by decide +kernel
theorem dX9_turn_51 : decode cX9_turn 51 = .ok (.iload_n 2, 1) := by decide +kernel
theorem dX9_turn_52 : decode cX9_turn 52 = .ok (.iadd, 1) := by decide +kernel
theorem dX9_turn_53 : decode cX9_turn 53 = .ok (.istore 4, 2) := by decide +kernel
theorem dX9_turn_55 : decode cX9_turn 55 = .ok (.iload 4, 2) := by decide +kernel
theorem dX9_turn_57 : decode cX9_turn 57 = .ok (.iload_n 3, 1) := by decide +kernel
theorem dX9_turn_58 : decode cX9_turn 58 = .ok (.if_icmp .ge 33, 3) := by decide +kernel
theorem dX9_turn_61 : decode cX9_turn 61 = .ok (.aload_n 0, 1) := by decide +kernel
theorem dX9_turn_62 : decode cX9_turn 62 = .ok (.getfield 24, 3) := by decide +kernel
theorem dX9_turn_65 : decode cX9_turn 65 = .ok (.iload 4, 2) := by decide +kernel
theorem dX9_turn_67 : decode cX9_turn 67 = .ok (.iaload, 1) := by decide +kernel
theorem dX9_turn_68 : decode cX9_turn 68 = .ok (.istore 5, 2) := by decide +kernel
theorem dX9_turn_70 : decode cX9_turn 70 = .ok (.aload_n 0, 1) := by decide +kernel
theorem dX9_turn_71 : decode cX9_turn 71 = .ok (.getfield 24, 3) := by decide +kernel
theorem dX9_turn_74 : decode cX9_turn 74 = .ok (.iload 4, 2) := by decide +kernel
theorem dX9_turn_76 : decode cX9_turn 76 = .ok (.aload_n 0, 1) := by decide +kernel
theorem dX9_turn_77 : decode cX9_turn 77 = .ok (.getfield 24, 3) := by decide +kernel
theorem dX9_turn_80 : decode cX9_turn 80 = .ok (.iload_n 3, 1) := by decide +kernel
theorem dX9_turn_81 : decode cX9_turn 81 = .ok (.iaload, 1) := by decide +kernel
theorem dX9_turn_82 : decode cX9_turn 82 = .ok (.iastore, 1) := by decide +kernel
theorem dX9_turn_83 : decode cX9_turn 83 = .ok (.aload_n 0, 1) := by decide +kernel
theorem dX9_turn_84 : decode cX9_turn 84 = .ok (.getfield 24, 3) := by decide +kernel
theorem dX9_turn_87 : decode cX9_turn 87 = .ok (.iload_n 3, 1) := by decide +kernel
theorem dX9_turn_88 : decode cX9_turn 88 = .ok (.iload 5, 2) := by decide +kernel
theorem dX9_turn_90 : decode cX9_turn 90 = .ok (.iastore, 1) := by decide +kernel
theorem dX9_turn_91 : decode cX9_turn 91 = .ok (.iinc 2 1, 3) := by decide +kernel
theorem dX9_turn_94 : decode cX9_turn 94 = .ok (.goto (-82), 3) := by decide +kernel
theorem dX9_turn_97 : decode cX9_turn 97 = .ok (.iinc 1 1, 3) := by decide +kernel
theorem dX9_turn_100 : decode cX9_turn 100 = .ok (.goto (-98), 3) := by decide +kernel
theorem dX9_turn_103 : decode cX9_turn 103 = .ok (.return_, 1) := by decide +kernel
theorem dX9_takeWords_0 : decode cX9_takeWords 0 = .ok (.sipush 319, 3) := by decide +kernel
theorem dX9_takeWords_3 : decode cX9_takeWords 3 = .ok (.bipush 13, 2) := by decide +kernel
theorem dX9_takeWords_5 : decode cX9_takeWords 5 = .ok (.iload_n 1, 1) := by decide +kernel
theorem dX9_takeWords_6 : decode cX9_takeWords 6 = .ok (.imul, 1) := by decide +kernel
theorem dX9_takeWords_7 : decode cX9_takeWords 7 = .ok (.iadd, 1) := by decide +kernel
theorem dX9_takeWords_8 : decode cX9_takeWords 8 = .ok (.istore_n 3, 1) := by decide +kernel
theorem dX9_takeWords_9 : decode cX9_takeWords 9 = .ok (.iload_n 3, 1) := by decide +kernel
theorem dX9_takeWords_10 : decode cX9_takeWords 10 = .ok (.bipush 13, 2) := by decide +kernel
theorem dX9_takeWords_12 : decode cX9_takeWords 12 = .ok (.iload_n 2, 1) := by decide +kernel
theorem dX9_takeWords_13 : decode cX9_takeWords 13 = .ok (.imul, 1) := by decide +kernel
theorem dX9_takeWords_14 : decode cX9_takeWords 14 = .ok (.iadd, 1) := by decide +kernel
theorem dX9_takeWords_15 : decode cX9_takeWords 15 = .ok (.sipush 319, 3) := by decide +kernel
theorem dX9_takeWords_18 : decode cX9_takeWords 18 = .ok (.bipush 13, 2) := by decide +kernel
theorem dX9_takeWords_20 : decode cX9_takeWords 20 = .ok (.aload_n 0, 1) := by decide +kernel
theorem dX9_takeWords_21 : decode cX9_takeWords 21 = .ok (.getfield 24, 3) := by decide +kernel
theorem dX9_takeWords_24 : decode cX9_takeWords 24 = .ok (.bipush 10, 2) := by decide +kernel
theorem dX9_takeWords_26 : decode cX9_takeWords 26 = .ok (.iaload, 1) := by decide +kernel
theorem dX9_takeWords_27 : decode cX9_takeWords 27 = .ok (.imul, 1) := by decide +kernel
theorem dX9_takeWords_28 : decode cX9_takeWords 28 = .ok (.iadd, 1) := by decide +kernel
theorem dX9_takeWords_29 : decode cX9_takeWords 29 = .ok (.if_icmp .ge 26, 3) := by decide +kernel
theorem dX9_takeWords_32 : decode cX9_takeWords 32 = .ok (.aload_n 0, 1) := by decide +kernel
theorem dX9_takeWords_33 : decode cX9_takeWords 33 = .ok (.getfield 24, 3) := by decide +kernel
theorem dX9_takeWords_36 : decode cX9_takeWords 36 = .ok (.iload_n 3, 1) := by decide +kernel
theorem dX9_takeWords_37 : decode cX9_takeWords 37 = .ok (.aload_n 0, 1) := by decide +kernel
theorem dX9_takeWords_38 : decode cX9_takeWords 38 = .ok (.getfield 24, 3) := by decide +kernel
theorem dX9_takeWords_41 : decode cX9_takeWords 41 = .ok (.iload_n 3, 1) := by decide +kernel
theorem dX9_takeWords_42 : decode cX9_takeWords 42 = .ok (.bipush 13, 2) := by decide +kernel
theorem dX9_takeWords_44 : decode cX9_takeWords 44 = .ok (.iload_n 2, 1) := by decide +kernel
theorem dX9_takeWords_45 : decode cX9_takeWords 45 = .ok (.imul, 1) := by decide +kernel
theorem dX9_takeWords_46 : decode cX9_takeWords 46 = .ok (.iadd, 1) := by decide +kernel
theorem dX9_takeWords_47 : decode cX9_takeWords 47 = .ok (.iaload, 1) := by decide +kernel
theorem dX9_takeWords_48 : decode cX9_takeWords 48 = .ok (.iastore, 1) := by decide +kernel
theorem dX9_takeWords_49 : decode cX9_takeWords 49 = .ok (.iinc 3 1, 3) := by decide +kernel
theorem dX9_takeWords_52 : decode cX9_takeWords 52 = .ok (.goto (-43), 3) := by decide +kernel
theorem dX9_takeWords_55 : decode cX9_takeWords 55 = .ok (.aload_n 0, 1) := by decide +kernel
theorem dX9_takeWords_56 : decode cX9_takeWords 56 = .ok (.getfield 24, 3) := by decide +kernel
theorem dX9_takeWords_59 : decode cX9_takeWords 59 = .ok (.bipush 10, 2) := by decide +kernel
theorem dX9_takeWords_61 : decode cX9_takeWords 61 = .ok (.dup2, 1) := by decide +kernel
theorem dX9_takeWords_62 : decode cX9_takeWords 62 = .ok (.iaload, 1) := by decide +kernel
theorem dX9_takeWords_63 : decode cX9_takeWords 63 = .ok (.iload_n 2, 1) := by decide +kernel
theorem dX9_takeWords_64 : decode cX9_takeWords 64 = .ok (.isub, 1) := by decide +kernel
theorem dX9_takeWords_65 : decode cX9_takeWords 65 = .ok (.iastore, 1) := by decide +kernel
theorem dX9_takeWords_66 : decode cX9_takeWords 66 = .ok (.return_, 1) := by decide +kernel
theorem dX9_takePart_0 : decode cX9_takePart 0 = .ok (.aload_n 0, 1) := by decide +kernel
theorem dX9_takePart_1 : decode cX9_takePart 1 = .ok (.aload_n 0, 1) := by decide +kernel
theorem dX9_takePart_2 : decode cX9_takePart 2 = .ok (.iload_n 1, 1) := by decide +kernel
theorem dX9_takePart_3 : decode cX9_takePart 3 = .ok (.invokevirtual 90, 3) := by decide +kernel
theorem dX9_takePart_6 : decode cX9_takePart 6 = .ok (.aload_n 0, 1) := by decide +kernel
theorem dX9_takePart_7 : decode cX9_takePart 7 = .ok (.iload_n 1, 1) := by decide +kernel
theorem dX9_takePart_8 : decode cX9_takePart 8 = .ok (.invokevirtual 86, 3) := by decide +kernel
theorem dX9_takePart_11 : decode cX9_takePart 11 = .ok (.invokevirtual 168, 3) := by decide +kernel
theorem dX9_takePart_14 : decode cX9_takePart 14 = .ok (.sipush 299, 3) := by decide +kernel
theorem dX9_takePart_17 : decode cX9_takePart 17 = .ok (.iconst 2, 1) := by decide +kernel
theorem dX9_takePart_18 : decode cX9_takePart 18 = .ok (.iload_n 1, 1) := by decide +kernel
theorem dX9_takePart_19 : decode cX9_takePart 19 = .ok (.imul, 1) := by decide +kernel
theorem dX9_takePart_20 : decode cX9_takePart 20 = .ok (.iadd, 1) := by decide +kernel
theorem dX9_takePart_21 : decode cX9_takePart 21 = .ok (.istore_n 2, 1) := by decide +kernel
theorem dX9_takePart_22 : decode cX9_takePart 22 = .ok (.iload_n 2, 1) := by decide +kernel
theorem dX9_takePart_23 : decode cX9_takePart 23 = .ok (.iconst 2, 1) := by decide +kernel
theorem dX9_takePart_24 : decode cX9_takePart 24 = .ok (.iadd, 1) := by decide +kernel
theorem dX9_takePart_25 : decode cX9_takePart 25 = .ok (.sipush 299, 3) := by decide +kernel
theorem dX9_takePart_28 : decode cX9_takePart 28 = .ok (.iconst 2, 1) := by decide +kernel
theorem dX9_takePart_29 : decode cX9_takePart 29 = .ok (.aload_n 0, 1) := by decide +kernel
theorem dX9_takePart_30 : decode cX9_takePart 30 = .ok (.getfield 24, 3) := by decide +kernel
theorem dX9_takePart_33 : decode cX9_takePart 33 = .ok (.bipush 9, 2) := by decide +kernel
theorem dX9_takePart_35 : decode cX9_takePart 35 = .ok (.iaload, 1) := by decide +kernel
theorem dX9_takePart_36 : decode cX9_takePart 36 = .ok (.imul, 1) := by decide +kernel
theorem dX9_takePart_37 : decode cX9_takePart 37 = .ok (.iadd, 1) := by decide +kernel
theorem dX9_takePart_38 : decode cX9_takePart 38 = .ok (.if_icmp .ge 23, 3) := by decide +kernel
theorem dX9_takePart_41 : decode cX9_takePart 41 = .ok (.aload_n 0, 1) := by decide +kernel
theorem dX9_takePart_42 : decode cX9_takePart 42 = .ok (.getfield 24, 3) := by decide +kernel
theorem dX9_takePart_45 : decode cX9_takePart 45 = .ok (.iload_n 2, 1) := by decide +kernel
theorem dX9_takePart_46 : decode cX9_takePart 46 = .ok (.aload_n 0, 1) := by decide +kernel
theorem dX9_takePart_47 : decode cX9_takePart 47 = .ok (.getfield 24, 3) := by decide +kernel
theorem dX9_takePart_50 : decode cX9_takePart 50 = .ok (.iload_n 2, 1) := by decide +kernel
theorem dX9_takePart_51 : decode cX9_takePart 51 = .ok (.iconst 2, 1) := by decide +kernel
theorem dX9_takePart_52 : decode cX9_takePart 52 = .ok (.iadd, 1) := by decide +kernel
theorem dX9_takePart_53 : decode cX9_takePart 53 = .ok (.iaload, 1) := by decide +kernel
theorem dX9_takePart_54 : decode cX9_takePart 54 = .ok (.iastore, 1) := by decide +kernel
theorem dX9_takePart_55 : decode cX9_takePart 55 = .ok (.iinc 2 1, 3) := by decide +kernel
theorem dX9_takePart_58 : decode cX9_takePart 58 = .ok (.goto (-36), 3) := by decide +kernel
theorem dX9_takePart_61 : decode cX9_takePart 61 = .ok (.aload_n 0, 1) := by decide +kernel
theorem dX9_takePart_62 : decode cX9_takePart 62 = .ok (.getfield 24, 3) := by decide +kernel
theorem dX9_takePart_65 : decode cX9_takePart 65 = .ok (.bipush 9, 2) := by decide +kernel
theorem dX9_takePart_67 : decode cX9_takePart 67 = .ok (.dup2, 1) := by decide +kernel
theorem dX9_takePart_68 : decode cX9_takePart 68 = .ok (.iaload, 1) := by decide +kernel
theorem dX9_takePart_69 : decode cX9_takePart 69 = .ok (.iconst 1, 1) := by decide +kernel
theorem dX9_takePart_70 : decode cX9_takePart 70 = .ok (.isub, 1) := by decide +kernel
theorem dX9_takePart_71 : decode cX9_takePart 71 = .ok (.iastore, 1) := by decide +kernel
theorem dX9_takePart_72 : decode cX9_takePart 72 = .ok (.return_, 1) := by decide +kernel
theorem dX9_moveNow_0 : decode cX9_moveNow 0 = .ok (.aload_n 0, 1) := by decide +kernel
theorem dX9_moveNow_1 : decode cX9_moveNow 1 = .ok (.iload_n 1, 1) := by decide +kernel
theorem dX9_moveNow_2 : decode cX9_moveNow 2 = .ok (.invokevirtual 123, 3) := by decide +kernel
theorem dX9_moveNow_5 : decode cX9_moveNow 5 = .ok (.istore_n 3, 1) := by decide +kernel
theorem dX9_moveNow_6 : decode cX9_moveNow 6 = .ok (.aload_n 0, 1) := by decide +kernel
theorem dX9_moveNow_7 : decode cX9_moveNow 7 = .ok (.iload_n 1, 1) := by decide +kernel
theorem dX9_moveNow_8 : decode cX9_moveNow 8 = .ok (.invokevirtual 86, 3) := by decide +kernel
theorem dX9_moveNow_11 : decode cX9_moveNow 11 = .ok (.istore 4, 2) := by decide +kernel
theorem dX9_moveNow_13 : decode cX9_moveNow 13 = .ok (.bipush 13, 2) := by decide +kernel
theorem dX9_moveNow_15 : decode cX9_moveNow 15 = .ok (.iload 4, 2) := by decide +kernel
theorem dX9_moveNow_17 : decode cX9_moveNow 17 = .ok (.imul, 1) := by decide +kernel
theorem dX9_moveNow_18 : decode cX9_moveNow 18 = .ok (.istore 5, 2) := by decide +kernel
theorem dX9_moveNow_20 : decode cX9_moveNow 20 = .ok (.sipush 319, 3) := by decide +kernel
theorem dX9_moveNow_23 : decode cX9_moveNow 23 = .ok (.bipush 13, 2) := by decide +kernel
theorem dX9_moveNow_25 : decode cX9_moveNow 25 = .ok (.aload_n 0, 1) := by decide +kernel
theorem dX9_moveNow_26 : decode cX9_moveNow 26 = .ok (.iload_n 1, 1) := by decide +kernel
theorem dX9_moveNow_27 : decode cX9_moveNow 27 = .ok (.invokevirtual 90, 3) := by decide +kernel
theorem dX9_moveNow_30 : decode cX9_moveNow 30 = .ok (.imul, 1) := by decide +kernel
theorem dX9_moveNow_31 : decode cX9_moveNow 31 = .ok (.iadd, 1) := by decide +kernel
theorem dX9_moveNow_32 : decode cX9_moveNow 32 = .ok (.istore 6, 2) := by decide +kernel
theorem dX9_moveNow_34 : decode cX9_moveNow 34 = .ok (.iconst 0, 1) := by decide +kernel
theorem dX9_moveNow_35 : decode cX9_moveNow 35 = .ok (.istore 7, 2) := by decide +kernel
theorem dX9_moveNow_37 : decode cX9_moveNow 37 = .ok (.iload 7, 2) := by decide +kernel
theorem dX9_moveNow_39 : decode cX9_moveNow 39 = .ok (.iload 5, 2) := by decide +kernel
theorem dX9_moveNow_41 : decode cX9_moveNow 41 = .ok (.if_icmp .ge 26, 3) := by decide +kernel
theorem dX9_moveNow_44 : decode cX9_moveNow 44 = .ok (.aload_n 0, 1) := by decide +kernel
theorem dX9_moveNow_45 : decode cX9_moveNow 45 = .ok (.getfield 36, 3) := by decide +kernel
theorem dX9_moveNow_48 : decode cX9_moveNow 48 = .ok (.iload 7, 2) := by decide +kernel
theorem dX9_moveNow_50 : decode cX9_moveNow 50 = .ok (.aload_n 0, 1) := by decide +kernel
theorem dX9_moveNow_51 : decode cX9_moveNow 51 = .ok (.getfield 24, 3) := by decide +kernel
theorem dX9_moveNow_54 : decode cX9_moveNow 54 = .ok (.iload 6, 2) := by decide +kernel
theorem dX9_moveNow_56 : decode cX9_moveNow 56 = .ok (.iload 7, 2) := by decide +kernel
theorem dX9_moveNow_58 : decode cX9_moveNow 58 = .ok (.iadd, 1) := by decide +kernel
theorem dX9_moveNow_59 : decode cX9_moveNow 59 = .ok (.iaload, 1) := by decide +kernel
theorem dX9_moveNow_60 : decode cX9_moveNow 60 = .ok (.iastore, 1) := by decide +kernel
theorem dX9_moveNow_61 : decode cX9_moveNow 61 = .ok (.iinc 7 1, 3) := by decide +kernel
theorem dX9_moveNow_64 : decode cX9_moveNow 64 = .ok (.goto (-27), 3) := by decide +kernel
theorem dX9_moveNow_67 : decode cX9_moveNow 67 = .ok (.aload_n 0, 1) := by decide +kernel
theorem dX9_moveNow_68 : decode cX9_moveNow 68 = .ok (.iload_n 1, 1) := by decide +kernel
theorem dX9_moveNow_69 : decode cX9_moveNow 69 = .ok (.invokevirtual 171, 3) := by decide +kernel
theorem dX9_moveNow_72 : decode cX9_moveNow 72 = .ok (.sipush 319, 3) := by decide +kernel
theorem dX9_moveNow_75 : decode cX9_moveNow 75 = .ok (.bipush 13, 2) := by decide +kernel
theorem dX9_moveNow_77 : decode cX9_moveNow 77 = .ok (.aload_n 0, 1) := by decide +kernel
theorem dX9_moveNow_78 : decode cX9_moveNow 78 = .ok (.iload_n 2, 1) := by decide +kernel
theorem dX9_moveNow_79 : decode cX9_moveNow 79 = .ok (.invokevirtual 90, 3) := by decide +kernel
theorem dX9_moveNow_82 : decode cX9_moveNow 82 = .ok (.imul, 1) := by decide +kernel
theorem dX9_moveNow_83 : decode cX9_moveNow 83 = .ok (.iadd, 1) := by decide +kernel
theorem dX9_moveNow_84 : decode cX9_moveNow 84 = .ok (.istore 7, 2) := by decide +kernel
theorem dX9_moveNow_86 : decode cX9_moveNow 86 = .ok (.sipush 319, 3) := by decide +kernel
theorem dX9_moveNow_89 : decode cX9_moveNow 89 = .ok (.bipush 13, 2) := by decide +kernel
theorem dX9_moveNow_91 : decode cX9_moveNow 91 = .ok (.aload_n 0, 1) := by decide +kernel
theorem dX9_moveNow_92 : decode cX9_moveNow 92 = .ok (.getfield 24, 3) := by decide +kernel
theorem dX9_moveNow_95 : decode cX9_moveNow 95 = .ok (.bipush 10, 2) := by decide +kernel
theorem dX9_moveNow_97 : decode cX9_moveNow 97 = .ok (.iaload, 1) := by decide +kernel
theorem dX9_moveNow_98 : decode cX9_moveNow 98 = .ok (.imul, 1) := by decide +kernel
theorem dX9_moveNow_99 : decode cX9_moveNow 99 = .ok (.iadd, 1) := by decide +kernel
theorem dX9_moveNow_100 : decode cX9_moveNow 100 = .ok (.iconst 1, 1) := by decide +kernel
theorem dX9_moveNow_101 : decode cX9_moveNow 101 = .ok (.isub, 1) := by decide +kernel
theorem dX9_moveNow_102 : decode cX9_moveNow 102 = .ok (.istore 8, 2) := by decide +kernel
theorem dX9_moveNow_104 : decode cX9_moveNow 104 = .ok (.iload 8, 2) := by decide +kernel
theorem dX9_moveNow_106 : decode cX9_moveNow 106 = .ok (.iload 7, 2) := by decide +kernel
theorem dX9_moveNow_108 : decode cX9_moveNow 108 = .ok (.if_icmp .lt 26, 3) := by decide +kernel
theorem dX9_moveNow_111 : decode cX9_moveNow 111 = .ok (.aload_n 0, 1) := by decide +kernel
theorem dX9_moveNow_112 : decode cX9_moveNow 112 = .ok (.getfield 24, 3) := by decide +kernel
theorem dX9_moveNow_115 : decode cX9_moveNow 115 = .ok (.iload 8, 2) := by decide +kernel
theorem dX9_moveNow_117 : decode cX9_moveNow 117 = .ok (.iload 5, 2) := by decide +kernel
theorem dX9_moveNow_119 : decode cX9_moveNow 119 = .ok (.iadd, 1) := by decide +kernel
theorem dX9_moveNow_120 : decode cX9_moveNow 120 = .ok (.aload_n 0, 1) := by decide +kernel
theorem dX9_moveNow_121 : decode cX9_moveNow 121 = .ok (.getfield 24, 3) := by decide +kernel
theorem dX9_moveNow_124 : decode cX9_moveNow 124 = .ok (.iload 8, 2) := by decide +kernel
theorem dX9_moveNow_126 : decode cX9_moveNow 126 = .ok (.iaload, 1) := by decide +kernel
theorem dX9_moveNow_127 : decode cX9_moveNow 127 = .ok (.iastore, 1) := by decide +kernel
theorem dX9_moveNow_128 : decode cX9_moveNow 128 = .ok (.iinc 8 (-1), 3) := by decide +kernel
theorem dX9_moveNow_131 : decode cX9_moveNow 131 = .ok (.goto (-27), 3) := by decide +kernel
theorem dX9_moveNow_134 : decode cX9_moveNow 134 = .ok (.iconst 0, 1) := by decide +kernel
theorem dX9_moveNow_135 : decode cX9_moveNow 135 = .ok (.istore 8, 2) := by decide +kernel
theorem dX9_moveNow_137 : decode cX9_moveNow 137 = .ok (.iload 8, 2) := by decide +kernel
theorem dX9_moveNow_139 : decode cX9_moveNow 139 = .ok (.iload 5, 2) := by decide +kernel
theorem dX9_moveNow_141 : decode cX9_moveNow 141 = .ok (.if_icmp .ge 26, 3) := by decide +kernel
theorem dX9_moveNow_144 : decode cX9_moveNow 144 = .ok (.aload_n 0, 1) := by decide +kernel
theorem dX9_moveNow_145 : decode cX9_moveNow 145 = .ok (.getfield 24, 3) := by decide +kernel
theorem dX9_moveNow_148 : decode cX9_moveNow 148 = .ok (.iload 7, 2) := by decide +kernel
theorem dX9_moveNow_150 : decode cX9_moveNow 150 = .ok (.iload 8, 2) := by decide +kernel
theorem dX9_moveNow_152 : decode cX9_moveNow 152 = .ok (.iadd, 1) := by decide +kernel
theorem dX9_moveNow_153 : decode cX9_moveNow 153 = .ok (.aload_n 0, 1) := by decide +kernel
theorem dX9_moveNow_154 : decode cX9_moveNow 154 = .ok (.getfield 36, 3) := by decide +kernel
theorem dX9_moveNow_157 : decode cX9_moveNow 157 = .ok (.iload 8, 2) := by decide +kernel
theorem dX9_moveNow_159 : decode cX9_moveNow 159 = .ok (.iaload, 1) := by decide +kernel
theorem dX9_moveNow_160 : decode cX9_moveNow 160 = .ok (.iastore, 1) := by decide +kernel
theorem dX9_moveNow_161 : decode cX9_moveNow 161 = .ok (.iinc 8 1, 3) := by decide +kernel
theorem dX9_moveNow_164 : decode cX9_moveNow 164 = .ok (.goto (-27), 3) := by decide +kernel
theorem dX9_moveNow_167 : decode cX9_moveNow 167 = .ok (.sipush 299, 3) := by decide +kernel
theorem dX9_moveNow_170 : decode cX9_moveNow 170 = .ok (.iconst 2, 1) := by decide +kernel
theorem dX9_moveNow_171 : decode cX9_moveNow 171 = .ok (.aload_n 0, 1) := by decide +kernel
theorem dX9_moveNow_172 : decode cX9_moveNow 172 = .ok (.getfield 24, 3) := by decide +kernel
theorem dX9_moveNow_175 : decode cX9_moveNow 175 = .ok (.bipush 9, 2) := by decide +kernel
theorem dX9_moveNow_177 : decode cX9_moveNow 177 = .ok (.iaload, 1) := by decide +kernel
theorem dX9_moveNow_178 : decode cX9_moveNow 178 = .ok (.imul, 1) := by decide +kernel
theorem dX9_moveNow_179 : decode cX9_moveNow 179 = .ok (.iadd, 1) := by decide +kernel
theorem dX9_moveNow_180 : decode cX9_moveNow 180 = .ok (.iconst 1, 1) := by decide +kernel
theorem dX9_moveNow_181 : decode cX9_moveNow 181 = .ok (.isub, 1) := by decide +kernel
theorem dX9_moveNow_182 : decode cX9_moveNow 182 = .ok (.istore 8, 2) := by decide +kernel
theorem dX9_moveNow_184 : decode cX9_moveNow 184 = .ok (.iload 8, 2) := by decide +kernel
theorem dX9_moveNow_186 : decode cX9_moveNow 186 = .ok (.sipush 299, 3) := by decide +kernel
theorem dX9_moveNow_189 : decode cX9_moveNow 189 = .ok (.iconst 2, 1) := by decide +kernel
theorem dX9_moveNow_190 : decode cX9_moveNow 190 = .ok (.iload_n 2, 1) := by decide +kernel
theorem dX9_moveNow_191 : decode cX9_moveNow 191 = .ok (.imul, 1) := by decide +kernel
theorem dX9_moveNow_192 : decode cX9_moveNow 192 = .ok (.iadd, 1) := by decide +kernel
theorem dX9_moveNow_193 : decode cX9_moveNow 193 = .ok (.if_icmp .lt 25, 3) := by decide +kernel
theorem dX9_moveNow_196 : decode cX9_moveNow 196 = .ok (.aload_n 0, 1) := by decide +kernel
theorem dX9_moveNow_197 : decode cX9_moveNow 197 = .ok (.getfield 24, 3) := by decide +kernel
theorem dX9_moveNow_200 : decode cX9_moveNow 200 = .ok (.iload 8, 2) := by decide +kernel
theorem dX9_moveNow_202 : decode cX9_moveNow 202 = .ok (.iconst 2, 1) := by decide +kernel
theorem dX9_moveNow_203 : decode cX9_moveNow 203 = .ok (.iadd, 1) := by decide +kernel
theorem dX9_moveNow_204 : decode cX9_moveNow 204 = .ok (.aload_n 0, 1) := by decide +kernel
theorem dX9_moveNow_205 : decode cX9_moveNow 205 = .ok (.getfield 24, 3) := by decide +kernel
theorem dX9_moveNow_208 : decode cX9_moveNow 208 = .ok (.iload 8, 2) := by decide +kernel
theorem dX9_moveNow_210 : decode cX9_moveNow 210 = .ok (.iaload, 1) := by decide +kernel
theorem dX9_moveNow_211 : decode cX9_moveNow 211 = .ok (.iastore, 1) := by decide +kernel
theorem dX9_moveNow_212 : decode cX9_moveNow 212 = .ok (.iinc 8 (-1), 3) := by decide +kernel
theorem dX9_moveNow_215 : decode cX9_moveNow 215 = .ok (.goto (-31), 3) := by decide +kernel
theorem dX9_moveNow_218 : decode cX9_moveNow 218 = .ok (.aload_n 0, 1) := by decide +kernel
theorem dX9_moveNow_219 : decode cX9_moveNow 219 = .ok (.getfield 24, 3) := by decide +kernel
theorem dX9_moveNow_222 : decode cX9_moveNow 222 = .ok (.sipush 299, 3) := by decide +kernel
theorem dX9_moveNow_225 : decode cX9_moveNow 225 = .ok (.iconst 2, 1) := by decide +kernel
theorem dX9_moveNow_226 : decode cX9_moveNow 226 = .ok (.iload_n 2, 1) := by decide +kernel
theorem dX9_moveNow_227 : decode cX9_moveNow 227 = .ok (.imul, 1) := by decide +kernel
theorem dX9_moveNow_228 : decode cX9_moveNow 228 = .ok (.iadd, 1) := by decide +kernel
theorem dX9_moveNow_229 : decode cX9_moveNow 229 = .ok (.iconst 0, 1) := by decide +kernel
theorem dX9_moveNow_230 : decode cX9_moveNow 230 = .ok (.iadd, 1) := by decide +kernel
theorem dX9_moveNow_231 : decode cX9_moveNow 231 = .ok (.iload_n 3, 1) := by decide +kernel
theorem dX9_moveNow_232 : decode cX9_moveNow 232 = .ok (.iastore, 1) := by decide +kernel
theorem dX9_moveNow_233 : decode cX9_moveNow 233 = .ok (.aload_n 0, 1) := by decide +kernel
theorem dX9_moveNow_234 : decode cX9_moveNow 234 = .ok (.getfield 24, 3) := by decide +kernel
theorem dX9_moveNow_237 : decode cX9_moveNow 237 = .ok (.sipush 299, 3) := by decide +kernel
theorem dX9_moveNow_240 : decode cX9_moveNow 240 = .ok (.iconst 2, 1) := by decide +kernel
theorem dX9_moveNow_241 : decode cX9_moveNow 241 = .ok (.iload_n 2, 1) := by decide +kernel
theorem dX9_moveNow_242 : decode cX9_moveNow 242 = .ok (.imul, 1) := by decide +kernel
theorem dX9_moveNow_243 : decode cX9_moveNow 243 = .ok (.iadd, 1) := by decide +kernel
theorem dX9_moveNow_244 : decode cX9_moveNow 244 = .ok (.iconst 1, 1) := by decide +kernel
theorem dX9_moveNow_245 : decode cX9_moveNow 245 = .ok (.iadd, 1) := by decide +kernel
theorem dX9_moveNow_246 : decode cX9_moveNow 246 = .ok (.iload 4, 2) := by decide +kernel
theorem dX9_moveNow_248 : decode cX9_moveNow 248 = .ok (.iastore, 1) := by decide +kernel
theorem dX9_moveNow_249 : decode cX9_moveNow 249 = .ok (.aload_n 0, 1) := by decide +kernel
theorem dX9_moveNow_250 : decode cX9_moveNow 250 = .ok (.getfield 24, 3) := by decide +kernel
theorem dX9_moveNow_253 : decode cX9_moveNow 253 = .ok (.bipush 9, 2) := by decide +kernel
theorem dX9_moveNow_255 : decode cX9_moveNow 255 = .ok (.dup2, 1) := by decide +kernel
theorem dX9_moveNow_256 : decode cX9_moveNow 256 = .ok (.iaload, 1) := by decide +kernel
theorem dX9_moveNow_257 : decode cX9_moveNow 257 = .ok (.iconst 1, 1) := by decide +kernel
theorem dX9_moveNow_258 : decode cX9_moveNow 258 = .ok (.iadd, 1) := by decide +kernel
theorem dX9_moveNow_259 : decode cX9_moveNow 259 = .ok (.iastore, 1) := by decide +kernel
theorem dX9_moveNow_260 : decode cX9_moveNow 260 = .ok (.aload_n 0, 1) := by decide +kernel
theorem dX9_moveNow_261 : decode cX9_moveNow 261 = .ok (.getfield 24, 3) := by decide +kernel
theorem dX9_moveNow_264 : decode cX9_moveNow 264 = .ok (.bipush 10, 2) := by decide +kernel
theorem dX9_moveNow_266 : decode cX9_moveNow 266 = .ok (.dup2, 1) := by decide +kernel
theorem dX9_moveNow_267 : decode cX9_moveNow 267 = .ok (.iaload, 1) := by decide +kernel
theorem dX9_moveNow_268 : decode cX9_moveNow 268 = .ok (.iload 4, 2) := by decide +kernel
theorem dX9_moveNow_270 : decode cX9_moveNow 270 = .ok (.iadd, 1) := by decide +kernel
theorem dX9_moveNow_271 : decode cX9_moveNow 271 = .ok (.iastore, 1) := by decide +kernel
theorem dX9_moveNow_272 : decode cX9_moveNow 272 = .ok (.return_, 1) := by decide +kernel
theorem dX9_cut_0 : decode cX9_cut 0 = .ok (.iconst 0, 1) := by decide +kernel
theorem dX9_cut_1 : decode cX9_cut 1 = .ok (.istore_n 3, 1) := by decide +kernel
theorem dX9_cut_2 : decode cX9_cut 2 = .ok (.iload_n 3, 1) := by decide +kernel
theorem dX9_cut_3 : decode cX9_cut 3 = .ok (.aload_n 0, 1) := by decide +kernel
theorem dX9_cut_4 : decode cX9_cut 4 = .ok (.invokevirtual 79, 3) := by decide +kernel
theorem dX9_cut_7 : decode cX9_cut 7 = .ok (.if_icmp .ge 110, 3) := by decide +kernel
theorem dX9_cut_10 : decode cX9_cut 10 = .ok (.iconst 0, 1) := by decide +kernel
theorem dX9_cut_11 : decode cX9_cut 11 = .ok (.istore 4, 2) := by decide +kernel
theorem dX9_cut_13 : decode cX9_cut 13 = .ok (.iload 4, 2) := by decide +kernel
theorem dX9_cut_15 : decode cX9_cut 15 = .ok (.aload_n 0, 1) := by decide +kernel
theorem dX9_cut_16 : decode cX9_cut 16 = .ok (.invokevirtual 71, 3) := by decide +kernel
theorem dX9_cut_19 : decode cX9_cut 19 = .ok (.if_icmp .ge 92, 3) := by decide +kernel
theorem dX9_cut_22 : decode cX9_cut 22 = .ok (.iload_n 2, 1) := by decide +kernel
theorem dX9_cut_23 : decode cX9_cut 23 = .ok (.ifCond .eq 9, 3) := by decide +kernel
theorem dX9_cut_26 : decode cX9_cut 26 = .ok (.iload_n 3, 1) := by decide +kernel
theorem dX9_cut_27 : decode cX9_cut 27 = .ok (.iload_n 1, 1) := by decide +kernel
theorem dX9_cut_28 : decode cX9_cut 28 = .ok (.iadd, 1) := by decide +kernel
theorem dX9_cut_29 : decode cX9_cut 29 = .ok (.goto 4, 3) := by decide +kernel
theorem dX9_cut_32 : decode cX9_cut 32 = .ok (.iload_n 3, 1) := by decide +kernel
theorem dX9_cut_33 : decode cX9_cut 33 = .ok (.istore 5, 2) := by decide +kernel
theorem dX9_cut_35 : decode cX9_cut 35 = .ok (.iload_n 2, 1) := by decide +kernel
theorem dX9_cut_36 : decode cX9_cut 36 = .ok (.ifCond .eq 20, 3) := by decide +kernel
theorem dX9_cut_39 : decode cX9_cut 39 = .ok (.iload 5, 2) := by decide +kernel
theorem dX9_cut_41 : decode cX9_cut 41 = .ok (.aload_n 0, 1) := by decide +kernel
theorem dX9_cut_42 : decode cX9_cut 42 = .ok (.invokevirtual 79, 3) := by decide +kernel
theorem dX9_cut_45 : decode cX9_cut 45 = .ok (.if_icmp .ge 7, 3) := by decide +kernel
theorem dX9_cut_48 : decode cX9_cut 48 = .ok (.iconst 1, 1) := by decide +kernel
theorem dX9_cut_49 : decode cX9_cut 49 = .ok (.goto 22, 3) := by decide +kernel
theorem dX9_cut_52 : decode cX9_cut 52 = .ok (.iconst 0, 1) := by decide +kernel
theorem dX9_cut_53 : decode cX9_cut 53 = .ok (.goto 18, 3) := by decide +kernel
theorem dX9_cut_56 : decode cX9_cut 56 = .ok (.iload_n 3, 1) := by decide +kernel
theorem dX9_cut_57 : decode cX9_cut 57 = .ok (.aload_n 0, 1) := by decide +kernel
theorem dX9_cut_58 : decode cX9_cut 58 = .ok (.invokevirtual 79, 3) := by decide +kernel
theorem dX9_cut_61 : decode cX9_cut 61 = .ok (.iload_n 1, 1) := by decide +kernel
theorem dX9_cut_62 : decode cX9_cut 62 = .ok (.isub, 1) := by decide +kernel
theorem dX9_cut_63 : decode cX9_cut 63 = .ok (.if_icmp .ge 7, 3) := by decide +kernel
theorem dX9_cut_66 : decode cX9_cut 66 = .ok (.iconst 1, 1) := by decide +kernel
theorem dX9_cut_67 : decode cX9_cut 67 = .ok (.goto 4, 3) := by decide +kernel
theorem dX9_cut_70 : decode cX9_cut 70 = .ok (.iconst 0, 1) := by decide +kernel
theorem dX9_cut_71 : decode cX9_cut 71 = .ok (.istore 6, 2) := by decide +kernel
theorem dX9_cut_73 : decode cX9_cut 73 = .ok (.aload_n 0, 1) := by decide +kernel
theorem dX9_cut_74 : decode cX9_cut 74 = .ok (.iload 4, 2) := by decide +kernel
theorem dX9_cut_76 : decode cX9_cut 76 = .ok (.iload_n 3, 1) := by decide +kernel
theorem dX9_cut_77 : decode cX9_cut 77 = .ok (.iload 6, 2) := by decide +kernel
theorem dX9_cut_79 : decode cX9_cut 79 = .ok (.ifCond .eq 22, 3) := by decide +kernel
theorem dX9_cut_82 : decode cX9_cut 82 = .ok (.aload_n 0, 1) := by decide +kernel
theorem dX9_cut_83 : decode cX9_cut 83 = .ok (.getfield 24, 3) := by decide +kernel
theorem dX9_cut_86 : decode cX9_cut 86 = .ok (.bipush 11, 2) := by decide +kernel
theorem dX9_cut_88 : decode cX9_cut 88 = .ok (.bipush 24, 2) := by decide +kernel
theorem dX9_cut_90 : decode cX9_cut 90 = .ok (.iload 5, 2) := by decide +kernel
theorem dX9_cut_92 : decode cX9_cut 92 = .ok (.imul, 1) := by decide +kernel
theorem dX9_cut_93 : decode cX9_cut 93 = .ok (.iadd, 1) := by decide +kernel
theorem dX9_cut_94 : decode cX9_cut 94 = .ok (.iload 4, 2) := by decide +kernel
theorem dX9_cut_96 : decode cX9_cut 96 = .ok (.iadd, 1) := by decide +kernel
theorem dX9_cut_97 : decode cX9_cut 97 = .ok (.iaload, 1) := by decide +kernel
theorem dX9_cut_98 : decode cX9_cut 98 = .ok (.goto 4, 3) := by decide +kernel
theorem dX9_cut_101 : decode cX9_cut 101 = .ok (.iconst 0, 1) := by decide +kernel
theorem dX9_cut_102 : decode cX9_cut 102 = .ok (.invokevirtual 175, 3) := by decide +kernel
theorem dX9_cut_105 : decode cX9_cut 105 = .ok (.iinc 4 1, 3) := by decide +kernel
theorem dX9_cut_108 : decode cX9_cut 108 = .ok (.goto (-95), 3) := by decide +kernel
theorem dX9_cut_111 : decode cX9_cut 111 = .ok (.iinc 3 1, 3) := by decide +kernel
theorem dX9_cut_114 : decode cX9_cut 114 = .ok (.goto (-112), 3) := by decide +kernel
theorem dX9_cut_117 : decode cX9_cut 117 = .ok (.aload_n 0, 1) := by decide +kernel
theorem dX9_cut_118 : decode cX9_cut 118 = .ok (.getfield 24, 3) := by decide +kernel
theorem dX9_cut_121 : decode cX9_cut 121 = .ok (.iconst 1, 1) := by decide +kernel
theorem dX9_cut_122 : decode cX9_cut 122 = .ok (.dup2, 1) := by decide +kernel
theorem dX9_cut_123 : decode cX9_cut 123 = .ok (.iaload, 1) := by decide +kernel
theorem dX9_cut_124 : decode cX9_cut 124 = .ok (.iload_n 1, 1) := by decide +kernel
theorem dX9_cut_125 : decode cX9_cut 125 = .ok (.isub, 1) := by decide +kernel
theorem dX9_cut_126 : decode cX9_cut 126 = .ok (.iastore, 1) := by decide +kernel
theorem dX9_cut_127 : decode cX9_cut 127 = .ok (.return_, 1) := by decide +kernel
theorem dX9_keepCarved_0 : decode cX9_keepCarved 0 = .ok (.aload_n 0, 1) := by decide +kernel
theorem dX9_keepCarved_1 : decode cX9_keepCarved 1 = .ok (.invokevirtual 179, 3) := by decide +kernel
theorem dX9_keepCarved_4 : decode cX9_keepCarved 4 = .ok (.istore_n 1, 1) := by decide +kernel
theorem dX9_keepCarved_5 : decode cX9_keepCarved 5 = .ok (.aload_n 0, 1) := by decide +kernel
theorem dX9_keepCarved_6 : decode cX9_keepCarved 6 = .ok (.aload_n 0, 1) := by decide +kernel
theorem dX9_keepCarved_7 : decode cX9_keepCarved 7 = .ok (.getfield 24, 3) := by decide +kernel
theorem dX9_keepCarved_10 : decode cX9_keepCarved 10 = .ok (.bipush 8, 2) := by decide +kernel
theorem dX9_keepCarved_12 : decode cX9_keepCarved 12 = .ok (.iaload, 1) := by decide +kernel
theorem dX9_keepCarved_13 : decode cX9_keepCarved 13 = .ok (.ifCond .ne 7, 3) := by decide +kernel
theorem dX9_keepCarved_16 : decode cX9_keepCarved 16 = .ok (.iconst 0, 1) := by decide +kernel
theorem dX9_keepCarved_17 : decode cX9_keepCarved 17 = .ok (.goto 18, 3) := by decide +kernel
theorem dX9_keepCarved_20 : decode cX9_keepCarved 20 = .ok (.aload_n 0, 1) := by decide +kernel
theorem dX9_keepCarved_21 : decode cX9_keepCarved 21 = .ok (.aload_n 0, 1) := by decide +kernel
theorem dX9_keepCarved_22 : decode cX9_keepCarved 22 = .ok (.getfield 24, 3) := by decide +kernel
theorem dX9_keepCarved_25 : decode cX9_keepCarved 25 = .ok (.bipush 8, 2) := by decide +kernel
theorem dX9_keepCarved_27 : decode cX9_keepCarved 27 = .ok (.iaload, 1) := by decide +kernel
theorem dX9_keepCarved_28 : decode cX9_keepCarved 28 = .ok (.iconst 1, 1) := by decide +kernel
theorem dX9_keepCarved_29 : decode cX9_keepCarved 29 = .ok (.isub, 1) := by decide +kernel
theorem dX9_keepCarved_30 : decode cX9_keepCarved 30 = .ok (.invokevirtual 148, 3) := by decide +kernel
theorem dX9_keepCarved_33 : decode cX9_keepCarved 33 = .ok (.iconst 1, 1) := by decide +kernel
theorem dX9_keepCarved_34 : decode cX9_keepCarved 34 = .ok (.iadd, 1) := by decide +kernel
theorem dX9_keepCarved_35 : decode cX9_keepCarved 35 = .ok (.putfield 182, 3) := by decide +kernel
theorem dX9_keepCarved_38 : decode cX9_keepCarved 38 = .ok (.iconst 0, 1) := by decide +kernel
theorem dX9_keepCarved_39 : decode cX9_keepCarved 39 = .ok (.istore_n 2, 1) := by decide +kernel
theorem dX9_keepCarved_40 : decode cX9_keepCarved 40 = .ok (.iload_n 2, 1) := by decide +kernel
theorem dX9_keepCarved_41 : decode cX9_keepCarved 41 = .ok (.aload_n 0, 1) := by decide +kernel
theorem dX9_keepCarved_42 : decode cX9_keepCarved 42 = .ok (.getfield 182, 3) := by decide +kernel
theorem dX9_keepCarved_45 : decode cX9_keepCarved 45 = .ok (.if_icmp .ge 73, 3) := by decide +kernel
theorem dX9_keepCarved_48 : decode cX9_keepCarved 48 = .ok (.aload_n 0, 1) := by decide +kernel
theorem dX9_keepCarved_49 : decode cX9_keepCarved 49 = .ok (.getfield 39, 3) := by decide +kernel
theorem dX9_keepCarved_52 : decode cX9_keepCarved 52 = .ok (.iload_n 2, 1) := by decide +kernel
theorem dX9_keepCarved_53 : decode cX9_keepCarved 53 = .ok (.aload_n 0, 1) := by decide +kernel
theorem dX9_keepCarved_54 : decode cX9_keepCarved 54 = .ok (.getfield 27, 3) := by decide +kernel
theorem dX9_keepCarved_57 : decode cX9_keepCarved 57 = .ok (.iload_n 2, 1) := by decide +kernel
theorem dX9_keepCarved_58 : decode cX9_keepCarved 58 = .ok (.iaload, 1) := by decide +kernel
theorem dX9_keepCarved_59 : decode cX9_keepCarved 59 = .ok (.iastore, 1) := by decide +kernel
theorem dX9_keepCarved_60 : decode cX9_keepCarved 60 = .ok (.aload_n 0, 1) := by decide +kernel
theorem dX9_keepCarved_61 : decode cX9_keepCarved 61 = .ok (.getfield 42, 3) := by decide +kernel
theorem dX9_keepCarved_64 : decode cX9_keepCarved 64 = .ok (.iload_n 2, 1) := by decide +kernel
theorem dX9_keepCarved_65 : decode cX9_keepCarved 65 = .ok (.aload_n 0, 1) := by decide +kernel
theorem dX9_keepCarved_66 : decode cX9_keepCarved 66 = .ok (.getfield 30, 3) := by decide +kernel
theorem dX9_keepCarved_69 : decode cX9_keepCarved 69 = .ok (.iload_n 2, 1) := by decide +kernel
theorem dX9_keepCarved_70 : decode cX9_keepCarved 70 = .ok (.iaload, 1) := by decide +kernel
theorem dX9_keepCarved_71 : decode cX9_keepCarved 71 = .ok (.iastore, 1) := by decide +kernel
theorem dX9_keepCarved_72 : decode cX9_keepCarved 72 = .ok (.iconst 0, 1) := by decide +kernel
theorem dX9_keepCarved_73 : decode cX9_keepCarved 73 = .ok (.istore_n 3, 1) := by decide +kernel
theorem dX9_keepCarved_74 : decode cX9_keepCarved 74 = .ok (.iload_n 3, 1) := by decide +kernel
theorem dX9_keepCarved_75 : decode cX9_keepCarved 75 = .ok (.bipush 13, 2) := by decide +kernel
theorem dX9_keepCarved_77 : decode cX9_keepCarved 77 = .ok (.if_icmp .ge 35, 3) := by decide +kernel
theorem dX9_keepCarved_80 : decode cX9_keepCarved 80 = .ok (.aload_n 0, 1) := by decide +kernel
theorem dX9_keepCarved_81 : decode cX9_keepCarved 81 = .ok (.getfield 45, 3) := by decide +kernel
theorem dX9_keepCarved_84 : decode cX9_keepCarved 84 = .ok (.bipush 13, 2) := by decide +kernel
theorem dX9_keepCarved_86 : decode cX9_keepCarved 86 = .ok (.iload_n 2, 1) := by decide +kernel
theorem dX9_keepCarved_87 : decode cX9_keepCarved 87 = .ok (.imul, 1) := by decide +kernel
theorem dX9_keepCarved_88 : decode cX9_keepCarved 88 = .ok (.iload_n 3, 1) := by decide +kernel
theorem dX9_keepCarved_89 : decode cX9_keepCarved 89 = .ok (.iadd, 1) := by decide +kernel
theorem dX9_keepCarved_90 : decode cX9_keepCarved 90 = .ok (.aload_n 0, 1) := by decide +kernel
theorem dX9_keepCarved_91 : decode cX9_keepCarved 91 = .ok (.getfield 24, 3) := by decide +kernel
theorem dX9_keepCarved_94 : decode cX9_keepCarved 94 = .ok (.sipush 319, 3) := by decide +kernel
theorem dX9_keepCarved_97 : decode cX9_keepCarved 97 = .ok (.bipush 13, 2) := by decide +kernel
theorem dX9_keepCarved_99 : decode cX9_keepCarved 99 = .ok (.iload_n 2, 1) := by decide +kernel
theorem dX9_keepCarved_100 : decode cX9_keepCarved 100 = .ok (.imul, 1) := by decide +kernel
theorem dX9_keepCarved_101 : decode cX9_keepCarved 101 = .ok (.iadd, 1) := by decide +kernel
theorem dX9_keepCarved_102 : decode cX9_keepCarved 102 = .ok (.iload_n 3, 1) := by decide +kernel
theorem dX9_keepCarved_103 : decode cX9_keepCarved 103 = .ok (.iadd, 1) := by decide +kernel
theorem dX9_keepCarved_104 : decode cX9_keepCarved 104 = .ok (.iaload, 1) := by decide +kernel
theorem dX9_keepCarved_105 : decode cX9_keepCarved 105 = .ok (.iastore, 1) := by decide +kernel
theorem dX9_keepCarved_106 : decode cX9_keepCarved 106 = .ok (.iinc 3 1, 3) := by decide +kernel
theorem dX9_keepCarved_109 : decode cX9_keepCarved 109 = .ok (.goto (-35), 3) := by decide +kernel
theorem dX9_keepCarved_112 : decode cX9_keepCarved 112 = .ok (.iinc 2 1, 3) := by decide +kernel
theorem dX9_keepCarved_115 : decode cX9_keepCarved 115 = .ok (.goto (-75), 3) := by decide +kernel
theorem dX9_keepCarved_118 : decode cX9_keepCarved 118 = .ok (.return_, 1) := by decide +kernel
theorem dX9_isAsKept_0 : decode cX9_isAsKept 0 = .ok (.aload_n 0, 1) := by decide +kernel
theorem dX9_isAsKept_1 : decode cX9_isAsKept 1 = .ok (.getfield 27, 3) := by decide +kernel
theorem dX9_isAsKept_4 : decode cX9_isAsKept 4 = .ok (.iload_n 1, 1) := by decide +kernel
theorem dX9_isAsKept_5 : decode cX9_isAsKept 5 = .ok (.iaload, 1) := by decide +kernel
theorem dX9_isAsKept_6 : decode cX9_isAsKept 6 = .ok (.aload_n 0, 1) := by decide +kernel
theorem dX9_isAsKept_7 : decode cX9_isAsKept 7 = .ok (.getfield 39, 3) := by decide +kernel
theorem dX9_isAsKept_10 : decode cX9_isAsKept 10 = .ok (.iload_n 1, 1) := by decide +kernel
theorem dX9_isAsKept_11 : decode cX9_isAsKept 11 = .ok (.iaload, 1) := by decide +kernel
theorem dX9_isAsKept_12 : decode cX9_isAsKept 12 = .ok (.if_icmp .ne 39, 3) := by decide +kernel
theorem dX9_isAsKept_15 : decode cX9_isAsKept 15 = .ok (.aload_n 0, 1) := by decide +kernel
theorem dX9_isAsKept_16 : decode cX9_isAsKept 16 = .ok (.getfield 30, 3) := by decide +kernel
theorem dX9_isAsKept_19 : decode cX9_isAsKept 19 = .ok (.iload_n 1, 1) := by decide +kernel
theorem dX9_isAsKept_20 : decode cX9_isAsKept 20 = .ok (.iaload, 1) := by decide +kernel
theorem dX9_isAsKept_21 : decode cX9_isAsKept 21 = .ok (.aload_n 0, 1) := by decide +kernel
theorem dX9_isAsKept_22 : decode cX9_isAsKept 22 = .ok (.getfield 42, 3) := by decide +kernel
theorem dX9_isAsKept_25 : decode cX9_isAsKept 25 = .ok (.iload_n 1, 1) := by decide +kernel
theorem dX9_isAsKept_26 : decode cX9_isAsKept 26 = .ok (.iaload, 1) := by decide +kernel
theorem dX9_isAsKept_27 : decode cX9_isAsKept 27 = .ok (.if_icmp .ne 24, 3) := by decide +kernel
theorem dX9_isAsKept_30 : decode cX9_isAsKept 30 = .ok (.aload_n 0, 1) := by decide +kernel
theorem dX9_isAsKept_31 : decode cX9_isAsKept 31 = .ok (.iload_n 1, 1) := by decide +kernel
theorem dX9_isAsKept_32 : decode cX9_isAsKept 32 = .ok (.invokevirtual 106, 3) := by decide +kernel
theorem dX9_isAsKept_35 : decode cX9_isAsKept 35 = .ok (.aload_n 0, 1) := by decide +kernel
theorem dX9_isAsKept_36 : decode cX9_isAsKept 36 = .ok (.getfield 45, 3) := by decide +kernel
theorem dX9_isAsKept_39 : decode cX9_isAsKept 39 = .ok (.bipush 13, 2) := by decide +kernel
theorem dX9_isAsKept_41 : decode cX9_isAsKept 41 = .ok (.iload_n 1, 1) := by decide +kernel
theorem dX9_isAsKept_42 : decode cX9_isAsKept 42 = .ok (.imul, 1) := by decide +kernel
theorem dX9_isAsKept_43 : decode cX9_isAsKept 43 = .ok (.iaload, 1) := by decide +kernel
theorem dX9_isAsKept_44 : decode cX9_isAsKept 44 = .ok (.if_icmp .ne 7, 3) := by decide +kernel
theorem dX9_isAsKept_47 : decode cX9_isAsKept 47 = .ok (.iconst 1, 1) := by decide +kernel
theorem dX9_isAsKept_48 : decode cX9_isAsKept 48 = .ok (.goto 4, 3) := by decide +kernel
theorem dX9_isAsKept_51 : decode cX9_isAsKept 51 = .ok (.iconst 0, 1) := by decide +kernel
theorem dX9_isAsKept_52 : decode cX9_isAsKept 52 = .ok (.istore_n 2, 1) := by decide +kernel
theorem dX9_isAsKept_53 : decode cX9_isAsKept 53 = .ok (.iconst 0, 1) := by decide +kernel
theorem dX9_isAsKept_54 : decode cX9_isAsKept 54 = .ok (.istore_n 3, 1) := by decide +kernel
theorem dX9_isAsKept_55 : decode cX9_isAsKept 55 = .ok (.iload_n 3, 1) := by decide +kernel
theorem dX9_isAsKept_56 : decode cX9_isAsKept 56 = .ok (.aload_n 0, 1) := by decide +kernel
theorem dX9_isAsKept_57 : decode cX9_isAsKept 57 = .ok (.iload_n 1, 1) := by decide +kernel
theorem dX9_isAsKept_58 : decode cX9_isAsKept 58 = .ok (.invokevirtual 106, 3) := by decide +kernel
theorem dX9_isAsKept_61 : decode cX9_isAsKept 61 = .ok (.if_icmp .ge 41, 3) := by decide +kernel
theorem dX9_isAsKept_64 : decode cX9_isAsKept 64 = .ok (.iload_n 2, 1) := by decide +kernel
theorem dX9_isAsKept_65 : decode cX9_isAsKept 65 = .ok (.ifCond .eq 37, 3) := by decide +kernel
theorem dX9_isAsKept_68 : decode cX9_isAsKept 68 = .ok (.aload_n 0, 1) := by decide +kernel
theorem dX9_isAsKept_69 : decode cX9_isAsKept 69 = .ok (.iload_n 1, 1) := by decide +kernel
theorem dX9_isAsKept_70 : decode cX9_isAsKept 70 = .ok (.iload_n 3, 1) := by decide +kernel
theorem dX9_isAsKept_71 : decode cX9_isAsKept 71 = .ok (.invokevirtual 132, 3) := by decide +kernel
theorem dX9_isAsKept_74 : decode cX9_isAsKept 74 = .ok (.aload_n 0, 1) := by decide +kernel
theorem dX9_isAsKept_75 : decode cX9_isAsKept 75 = .ok (.getfield 45, 3) := by decide +kernel
theorem dX9_isAsKept_78 : decode cX9_isAsKept 78 = .ok (.bipush 13, 2) := by decide +kernel
theorem dX9_isAsKept_80 : decode cX9_isAsKept 80 = .ok (.iload_n 1, 1) := by decide +kernel
theorem dX9_isAsKept_81 : decode cX9_isAsKept 81 = .ok (.imul, 1) := by decide +kernel
theorem dX9_isAsKept_82 : decode cX9_isAsKept 82 = .ok (.iconst 1, 1) := by decide +kernel
theorem dX9_isAsKept_83 : decode cX9_isAsKept 83 = .ok (.iadd, 1) := by decide +kernel
theorem dX9_isAsKept_84 : decode cX9_isAsKept 84 = .ok (.iload_n 3, 1) := by decide +kernel
theorem dX9_isAsKept_85 : decode cX9_isAsKept 85 = .ok (.iadd, 1) := by decide +kernel
theorem dX9_isAsKept_86 : decode cX9_isAsKept 86 = .ok (.iaload, 1) := by decide +kernel
theorem dX9_isAsKept_87 : decode cX9_isAsKept 87 = .ok (.if_icmp .ne 7, 3) := by decide +kernel
theorem dX9_isAsKept_90 : decode cX9_isAsKept 90 = .ok (.iconst 1, 1) := by decide +kernel
theorem dX9_isAsKept_91 : decode cX9_isAsKept 91 = .ok (.goto 4, 3) := by decide +kernel
theorem dX9_isAsKept_94 : decode cX9_isAsKept 94 = .ok (.iconst 0, 1) := by decide +kernel
theorem dX9_isAsKept_95 : decode cX9_isAsKept 95 = .ok (.istore_n 2, 1) := by decide +kernel
theorem dX9_isAsKept_96 : decode cX9_isAsKept 96 = .ok (.iinc 3 1, 3) := by decide +kernel
theorem dX9_isAsKept_99 : decode cX9_isAsKept 99 = .ok (.goto (-44), 3) := by decide +kernel
theorem dX9_isAsKept_102 : decode cX9_isAsKept 102 = .ok (.iload_n 2, 1) := by decide +kernel
theorem dX9_isAsKept_103 : decode cX9_isAsKept 103 = .ok (.ireturn, 1) := by decide +kernel
theorem dX9_allStay_0 : decode cX9_allStay 0 = .ok (.aload_n 0, 1) := by decide +kernel
theorem dX9_allStay_1 : decode cX9_allStay 1 = .ok (.invokevirtual 179, 3) := by decide +kernel
theorem dX9_allStay_4 : decode cX9_allStay 4 = .ok (.aload_n 0, 1) := by decide +kernel
theorem dX9_allStay_5 : decode cX9_allStay 5 = .ok (.getfield 182, 3) := by decide +kernel
theorem dX9_allStay_8 : decode cX9_allStay 8 = .ok (.if_icmp .lt 7, 3) := by decide +kernel
theorem dX9_allStay_11 : decode cX9_allStay 11 = .ok (.iconst 1, 1) := by decide +kernel
theorem dX9_allStay_12 : decode cX9_allStay 12 = .ok (.goto 4, 3) := by decide +kernel
theorem dX9_allStay_15 : decode cX9_allStay 15 = .ok (.iconst 0, 1) := by decide +kernel
theorem dX9_allStay_16 : decode cX9_allStay 16 = .ok (.istore_n 1, 1) := by decide +kernel
theorem dX9_allStay_17 : decode cX9_allStay 17 = .ok (.iconst 0, 1) := by decide +kernel
theorem dX9_allStay_18 : decode cX9_allStay 18 = .ok (.istore_n 2, 1) := by decide +kernel
theorem dX9_allStay_19 : decode cX9_allStay 19 = .ok (.iload_n 2, 1) := by decide +kernel
theorem dX9_allStay_20 : decode cX9_allStay 20 = .ok (.aload_n 0, 1) := by decide +kernel
theorem dX9_allStay_21 : decode cX9_allStay 21 = .ok (.getfield 182, 3) := by decide +kernel
theorem dX9_allStay_24 : decode cX9_allStay 24 = .ok (.if_icmp .ge 19, 3) := by decide +kernel
theorem dX9_allStay_27 : decode cX9_allStay 27 = .ok (.iload_n 1, 1) := by decide +kernel
theorem dX9_allStay_28 : decode cX9_allStay 28 = .ok (.ifCond .eq 15, 3) := by decide +kernel
theorem dX9_allStay_31 : decode cX9_allStay 31 = .ok (.aload_n 0, 1) := by decide +kernel
theorem dX9_allStay_32 : decode cX9_allStay 32 = .ok (.iload_n 2, 1) := by decide +kernel
theorem dX9_allStay_33 : decode cX9_allStay 33 = .ok (.invokevirtual 185, 3) := by decide +kernel
theorem dX9_allStay_36 : decode cX9_allStay 36 = .ok (.istore_n 1, 1) := by decide +kernel
theorem dX9_allStay_37 : decode cX9_allStay 37 = .ok (.iinc 2 1, 3) := by decide +kernel
theorem dX9_allStay_40 : decode cX9_allStay 40 = .ok (.goto (-21), 3) := by decide +kernel
theorem dX9_allStay_43 : decode cX9_allStay 43 = .ok (.iload_n 1, 1) := by decide +kernel
theorem dX9_allStay_44 : decode cX9_allStay 44 = .ok (.ireturn, 1) := by decide +kernel
theorem dX9_appendFour_0 : decode cX9_appendFour 0 = .ok (.bipush 24, 2) := by decide +kernel
theorem dX9_appendFour_2 : decode cX9_appendFour 2 = .ok (.istore_n 2, 1) := by decide +kernel
theorem dX9_appendFour_3 : decode cX9_appendFour 3 = .ok (.iload_n 2, 1) := by decide +kernel
theorem dX9_appendFour_4 : decode cX9_appendFour 4 = .ok (.ifCond .lt 32, 3) := by decide +kernel
theorem dX9_appendFour_7 : decode cX9_appendFour 7 = .ok (.aload_n 0, 1) := by decide +kernel
theorem dX9_appendFour_8 : decode cX9_appendFour 8 = .ok (.getfield 48, 3) := by decide +kernel
theorem dX9_appendFour_11 : decode cX9_appendFour 11 = .ok (.aload_n 0, 1) := by decide +kernel
theorem dX9_appendFour_12 : decode cX9_appendFour 12 = .ok (.getfield 188, 3) := by decide +kernel
theorem dX9_appendFour_15 : decode cX9_appendFour 15 = .ok (.iload_n 1, 1) := by decide +kernel
theorem dX9_appendFour_16 : decode cX9_appendFour 16 = .ok (.iload_n 2, 1) := by decide +kernel
theorem dX9_appendFour_17 : decode cX9_appendFour 17 = .ok (.ishr, 1) := by decide +kernel
theorem dX9_appendFour_18 : decode cX9_appendFour 18 = .ok (.i2b, 1) := by decide +kernel
theorem dX9_appendFour_19 : decode cX9_appendFour 19 = .ok (.bastore, 1) := by decide +kernel
theorem dX9_appendFour_20 : decode cX9_appendFour 20 = .ok (.aload_n 0, 1) := by decide +kernel
theorem dX9_appendFour_21 : decode cX9_appendFour 21 = .ok (.dup, 1) := by decide +kernel
theorem dX9_appendFour_22 : decode cX9_appendFour 22 = .ok (.getfield 188, 3) := by decide +kernel
theorem dX9_appendFour_25 : decode cX9_appendFour 25 = .ok (.iconst 1, 1) := by decide +kernel
theorem dX9_appendFour_26 : decode cX9_appendFour 26 = .ok (.iadd, 1) := by decide +kernel
theorem dX9_appendFour_27 : decode cX9_appendFour 27 = .ok (.putfield 188, 3) := by decide +kernel
theorem dX9_appendFour_30 : decode cX9_appendFour 30 = .ok (.iinc 2 (-8), 3) := by decide +kernel
theorem dX9_appendFour_33 : decode cX9_appendFour 33 = .ok (.goto (-30), 3) := by decide +kernel
theorem dX9_appendFour_36 : decode cX9_appendFour 36 = .ok (.return_, 1) := by decide +kernel
theorem dX9_append_0 : decode cX9_append 0 = .ok (.aload_n 0, 1) := by decide +kernel
theorem dX9_append_1 : decode cX9_append 1 = .ok (.aload_n 0, 1) := by decide +kernel
theorem dX9_append_2 : decode cX9_append 2 = .ok (.getfield 188, 3) := by decide +kernel
theorem dX9_append_5 : decode cX9_append 5 = .ok (.bipush 20, 2) := by decide +kernel
theorem dX9_append_7 : decode cX9_append 7 = .ok (.iadd, 1) := by decide +kernel
theorem dX9_append_8 : decode cX9_append 8 = .ok (.sipush 500, 3) := by decide +kernel
theorem dX9_append_11 : decode cX9_append 11 = .ok (.if_icmp .gt 7, 3) := by decide +kernel
theorem dX9_append_14 : decode cX9_append 14 = .ok (.iconst 1, 1) := by decide +kernel
theorem dX9_append_15 : decode cX9_append 15 = .ok (.goto 4, 3) := by decide +kernel
theorem dX9_append_18 : decode cX9_append 18 = .ok (.iconst 0, 1) := by decide +kernel
theorem dX9_append_19 : decode cX9_append 19 = .ok (.invokevirtual 191, 3) := by decide +kernel
theorem dX9_append_22 : decode cX9_append 22 = .ok (.ifCond .ne 5, 3) := by decide +kernel
theorem dX9_append_25 : decode cX9_append 25 = .ok (.iconst 0, 1) := by decide +kernel
theorem dX9_append_26 : decode cX9_append 26 = .ok (.ireturn, 1) := by decide +kernel
theorem dX9_append_27 : decode cX9_append 27 = .ok (.aload_n 0, 1) := by decide +kernel
theorem dX9_append_28 : decode cX9_append 28 = .ok (.iload_n 1, 1) := by decide +kernel
theorem dX9_append_29 : decode cX9_append 29 = .ok (.invokevirtual 195, 3) := by decide +kernel
theorem dX9_append_32 : decode cX9_append 32 = .ok (.aload_n 0, 1) := by decide +kernel
theorem dX9_append_33 : decode cX9_append 33 = .ok (.iload_n 2, 1) := by decide +kernel
theorem dX9_append_34 : decode cX9_append 34 = .ok (.invokevirtual 195, 3) := by decide +kernel
theorem dX9_append_37 : decode cX9_append 37 = .ok (.aload_n 0, 1) := by decide +kernel
theorem dX9_append_38 : decode cX9_append 38 = .ok (.iload_n 3, 1) := by decide +kernel
theorem dX9_append_39 : decode cX9_append 39 = .ok (.invokevirtual 195, 3) := by decide +kernel
theorem dX9_append_42 : decode cX9_append 42 = .ok (.aload_n 0, 1) := by decide +kernel
theorem dX9_append_43 : decode cX9_append 43 = .ok (.iload 4, 2) := by decide +kernel
theorem dX9_append_45 : decode cX9_append 45 = .ok (.invokevirtual 195, 3) := by decide +kernel
theorem dX9_append_48 : decode cX9_append 48 = .ok (.aload_n 0, 1) := by decide +kernel
theorem dX9_append_49 : decode cX9_append 49 = .ok (.iload 5, 2) := by decide +kernel
theorem dX9_append_51 : decode cX9_append 51 = .ok (.invokevirtual 195, 3) := by decide +kernel
theorem dX9_append_54 : decode cX9_append 54 = .ok (.aload_n 0, 1) := by decide +kernel
theorem dX9_append_55 : decode cX9_append 55 = .ok (.getfield 188, 3) := by decide +kernel
theorem dX9_append_58 : decode cX9_append 58 = .ok (.ireturn, 1) := by decide +kernel
theorem dX9_truncate_0 : decode cX9_truncate 0 = .ok (.aload_n 0, 1) := by decide +kernel
theorem dX9_truncate_1 : decode cX9_truncate 1 = .ok (.iload_n 1, 1) := by decide +kernel
theorem dX9_truncate_2 : decode cX9_truncate 2 = .ok (.i2l, 1) := by decide +kernel
theorem dX9_truncate_3 : decode cX9_truncate 3 = .ok (.lconst 0, 1) := by decide +kernel
theorem dX9_truncate_4 : decode cX9_truncate 4 = .ok (.aload_n 0, 1) := by decide +kernel
theorem dX9_truncate_5 : decode cX9_truncate 5 = .ok (.getfield 188, 3) := by decide +kernel
theorem dX9_truncate_8 : decode cX9_truncate 8 = .ok (.i2l, 1) := by decide +kernel
theorem dX9_truncate_9 : decode cX9_truncate 9 = .ok (.invokestatic 75, 3) := by decide +kernel
theorem dX9_truncate_12 : decode cX9_truncate 12 = .ok (.invokevirtual 191, 3) := by decide +kernel
theorem dX9_truncate_15 : decode cX9_truncate 15 = .ok (.ifCond .eq 8, 3) := by decide +kernel
theorem dX9_truncate_18 : decode cX9_truncate 18 = .ok (.aload_n 0, 1) := by decide +kernel
theorem dX9_truncate_19 : decode cX9_truncate 19 = .ok (.iload_n 1, 1) := by decide +kernel
theorem dX9_truncate_20 : decode cX9_truncate 20 = .ok (.putfield 188, 3) := by decide +kernel
theorem dX9_truncate_23 : decode cX9_truncate 23 = .ok (.return_, 1) := by decide +kernel
theorem dX9_good_0 : decode cX9_good 0 = .ok (.aload_n 0, 1) := by decide +kernel
theorem dX9_good_1 : decode cX9_good 1 = .ok (.getfield 198, 3) := by decide +kernel
theorem dX9_good_4 : decode cX9_good 4 = .ok (.ifCond .ne 7, 3) := by decide +kernel
theorem dX9_good_7 : decode cX9_good 7 = .ok (.iconst 1, 1) := by decide +kernel
theorem dX9_good_8 : decode cX9_good 8 = .ok (.goto 4, 3) := by decide +kernel
theorem dX9_good_11 : decode cX9_good 11 = .ok (.iconst 0, 1) := by decide +kernel
theorem dX9_good_12 : decode cX9_good 12 = .ok (.ireturn, 1) := by decide +kernel
theorem dX9_errs_0 : decode cX9_errs 0 = .ok (.aload_n 0, 1) := by decide +kernel
theorem dX9_errs_1 : decode cX9_errs 1 = .ok (.invokevirtual 201, 3) := by decide +kernel
theorem dX9_errs_4 : decode cX9_errs 4 = .ok (.ifCond .ne 4, 3) := by decide +kernel
theorem dX9_errs_7 : decode cX9_errs 7 = .ok (.return_, 1) := by decide +kernel
theorem dX9_errs_8 : decode cX9_errs 8 = .ok (.aload_n 0, 1) := by decide +kernel
theorem dX9_errs_9 : decode cX9_errs 9 = .ok (.iload_n 1, 1) := by decide +kernel
theorem dX9_errs_10 : decode cX9_errs 10 = .ok (.putfield 198, 3) := by decide +kernel
theorem dX9_errs_13 : decode cX9_errs 13 = .ok (.aload_n 0, 1) := by decide +kernel
theorem dX9_errs_14 : decode cX9_errs 14 = .ok (.aload_n 0, 1) := by decide +kernel
theorem dX9_errs_15 : decode cX9_errs 15 = .ok (.getfield 205, 3) := by decide +kernel
theorem dX9_errs_18 : decode cX9_errs 18 = .ok (.putfield 52, 3) := by decide +kernel
theorem dX9_errs_21 : decode cX9_errs 21 = .ok (.return_, 1) := by decide +kernel
theorem dX9_byteAt_0 : decode cX9_byteAt 0 = .ok (.iload_n 1, 1) := by decide +kernel
theorem dX9_byteAt_1 : decode cX9_byteAt 1 = .ok (.aload_n 0, 1) := by decide +kernel
theorem dX9_byteAt_2 : decode cX9_byteAt 2 = .ok (.getfield 208, 3) := by decide +kernel
theorem dX9_byteAt_5 : decode cX9_byteAt 5 = .ok (.if_icmp .ge 16, 3) := by decide +kernel
theorem dX9_byteAt_8 : decode cX9_byteAt 8 = .ok (.aload_n 0, 1) := by decide +kernel
theorem dX9_byteAt_9 : decode cX9_byteAt 9 = .ok (.getfield 48, 3) := by decide +kernel
theorem dX9_byteAt_12 : decode cX9_byteAt 12 = .ok (.iload_n 1, 1) := by decide +kernel
theorem dX9_byteAt_13 : decode cX9_byteAt 13 = .ok (.baload, 1) := by decide +kernel
theorem dX9_byteAt_14 : decode cX9_byteAt 14 = .ok (.sipush 255, 3) := by decide +kernel
theorem dX9_byteAt_17 : decode cX9_byteAt 17 = .ok (.iand, 1) := by decide +kernel
theorem dX9_byteAt_18 : decode cX9_byteAt 18 = .ok (.goto 4, 3) := by decide +kernel
theorem dX9_byteAt_21 : decode cX9_byteAt 21 = .ok (.iconst (-1), 1) := by decide +kernel
theorem dX9_byteAt_22 : decode cX9_byteAt 22 = .ok (.ireturn, 1) := by decide +kernel
theorem dX9_scan_0 : decode cX9_scan 0 = .ok (.aload_n 0, 1) := by decide +kernel
theorem dX9_scan_1 : decode cX9_scan 1 = .ok (.aload_n 0, 1) := by decide +kernel
theorem dX9_scan_2 : decode cX9_scan 2 = .ok (.getfield 211, 3) := by decide +kernel
theorem dX9_scan_5 : decode cX9_scan 5 = .ok (.invokevirtual 214, 3) := by decide +kernel
theorem dX9_scan_8 : decode cX9_scan 8 = .ok (.bipush 32, 2) := by decide +kernel
theorem dX9_scan_10 : decode cX9_scan 10 = .ok (.if_icmp .eq 16, 3) := by decide +kernel
theorem dX9_scan_13 : decode cX9_scan 13 = .ok (.aload_n 0, 1) := by decide +kernel
theorem dX9_scan_14 : decode cX9_scan 14 = .ok (.aload_n 0, 1) := by decide +kernel
theorem dX9_scan_15 : decode cX9_scan 15 = .ok (.getfield 211, 3) := by decide +kernel
theorem dX9_scan_18 : decode cX9_scan 18 = .ok (.invokevirtual 214, 3) := by decide +kernel
theorem dX9_scan_21 : decode cX9_scan 21 = .ok (.bipush 10, 2) := by decide +kernel
theorem dX9_scan_23 : decode cX9_scan 23 = .ok (.if_icmp .ne 16, 3) := by decide +kernel
theorem dX9_scan_26 : decode cX9_scan 26 = .ok (.aload_n 0, 1) := by decide +kernel
theorem dX9_scan_27 : decode cX9_scan 27 = .ok (.dup, 1) := by decide +kernel
theorem dX9_scan_28 : decode cX9_scan 28 = .ok (.getfield 211, 3) := by decide +kernel
theorem dX9_scan_31 : decode cX9_scan 31 = .ok (.iconst 1, 1) := by decide +kernel
theorem dX9_scan_32 : decode cX9_scan 32 = .ok (.iadd, 1) := by decide +kernel
theorem dX9_scan_33 : decode cX9_scan 33 = .ok (.putfield 211, 3) := by decide +kernel
theorem dX9_scan_36 : decode cX9_scan 36 = .ok (.goto (-36), 3) := by decide +kernel
theorem dX9_scan_39 : decode cX9_scan 39 = .ok (.aload_n 0, 1) := by decide +kernel
theorem dX9_scan_40 : decode cX9_scan 40 = .ok (.aload_n 0, 1) := by decide +kernel
theorem dX9_scan_41 : decode cX9_scan 41 = .ok (.getfield 211, 3) := by decide +kernel
theorem dX9_scan_44 : decode cX9_scan 44 = .ok (.putfield 205, 3) := by decide +kernel
theorem dX9_scan_47 : decode cX9_scan 47 = .ok (.aload_n 0, 1) := by decide +kernel
theorem dX9_scan_48 : decode cX9_scan 48 = .ok (.aload_n 0, 1) := by decide +kernel
theorem dX9_scan_49 : decode cX9_scan 49 = .ok (.getfield 211, 3) := by decide +kernel
theorem dX9_scan_52 : decode cX9_scan 52 = .ok (.invokevirtual 214, 3) := by decide +kernel
theorem dX9_scan_55 : decode cX9_scan 55 = .ok (.istore_n 1, 1) := by decide +kernel
theorem dX9_scan_56 : decode cX9_scan 56 = .ok (.iload_n 1, 1) := by decide +kernel
theorem dX9_scan_57 : decode cX9_scan 57 = .ok (.iconst (-1), 1) := by decide +kernel
theorem dX9_scan_58 : decode cX9_scan 58 = .ok (.if_icmp .ne 11, 3) := by decide +kernel
theorem dX9_scan_61 : decode cX9_scan 61 = .ok (.aload_n 0, 1) := by decide +kernel
theorem dX9_scan_62 : decode cX9_scan 62 = .ok (.iconst 0, 1) := by decide +kernel
theorem dX9_scan_63 : decode cX9_scan 63 = .ok (.putfield 217, 3) := by decide +kernel
theorem dX9_scan_66 : decode cX9_scan 66 = .ok (.goto 169, 3) := by decide +kernel
theorem dX9_scan_69 : decode cX9_scan 69 = .ok (.iload_n 1, 1) := by decide +kernel
theorem dX9_scan_70 : decode cX9_scan 70 = .ok (.i2l, 1) := by decide +kernel
theorem dX9_scan_71 : decode cX9_scan 71 = .ok (.ldc2_w 220, 3) := by decide +kernel
theorem dX9_scan_74 : decode cX9_scan 74 = .ok (.ldc2_w 222, 3) := by decide +kernel
theorem dX9_scan_77 : decode cX9_scan 77 = .ok (.invokestatic 75, 3) := by decide +kernel
theorem dX9_scan_80 : decode cX9_scan 80 = .ok (.ifCond .eq 45, 3) := by decide +kernel
theorem dX9_scan_83 : decode cX9_scan 83 = .ok (.aload_n 0, 1) := by decide +kernel
theorem dX9_scan_84 : decode cX9_scan 84 = .ok (.aload_n 0, 1) := by decide +kernel
theorem dX9_scan_85 : decode cX9_scan 85 = .ok (.getfield 211, 3) := by decide +kernel
theorem dX9_scan_88 : decode cX9_scan 88 = .ok (.invokevirtual 214, 3) := by decide +kernel
theorem dX9_scan_91 : decode cX9_scan 91 = .ok (.i2l, 1) := by decide +kernel
theorem dX9_scan_92 : decode cX9_scan 92 = .ok (.ldc2_w 220, 3) := by decide +kernel
theorem dX9_scan_95 : decode cX9_scan 95 = .ok (.ldc2_w 222, 3) := by decide +kernel
theorem dX9_scan_98 : decode cX9_scan 98 = .ok (.invokestatic 75, 3) := by decide +kernel
theorem dX9_scan_101 : decode cX9_scan 101 = .ok (.ifCond .eq 16, 3) := by decide +kernel
theorem dX9_scan_104 : decode cX9_scan 104 = .ok (.aload_n 0, 1) := by decide +kernel
theorem dX9_scan_105 : decode cX9_scan 105 = .ok (.dup, 1) := by decide +kernel
theorem dX9_scan_106 : decode cX9_scan 106 = .ok (.getfield 211, 3) := by decide +kernel
theorem dX9_scan_109 : decode cX9_scan 109 = .ok (.iconst 1, 1) := by decide +kernel
theorem dX9_scan_110 : decode cX9_scan 110 = .ok (.iadd, 1) := by decide +kernel
theorem dX9_scan_111 : decode cX9_scan 111 = .ok (.putfield 211, 3) := by decide +kernel
theorem dX9_scan_114 : decode cX9_scan 114 = .ok (.goto (-31), 3) := by decide +kernel
theorem dX9_scan_117 : decode cX9_scan 117 = .ok (.aload_n 0, 1) := by decide +kernel
theorem dX9_scan_118 : decode cX9_scan 118 = .ok (.iconst 1, 1) := by decide +kernel
theorem dX9_scan_119 : decode cX9_scan 119 = .ok (.putfield 217, 3) := by decide +kernel
theorem dX9_scan_122 : decode cX9_scan 122 = .ok (.goto 113, 3) := by decide +kernel
theorem dX9_scan_125 : decode cX9_scan 125 = .ok (.iload_n 1, 1) := by decide +kernel
theorem dX9_scan_126 : decode cX9_scan 126 = .ok (.i2l, 1) := by decide +kernel
theorem dX9_scan_127 : decode cX9_scan 127 = .ok (.ldc2_w 224, 3) := by decide +kernel
theorem dX9_scan_130 : decode cX9_scan 130 = .ok (.ldc2_w 226, 3) := by decide +kernel
theorem dX9_scan_133 : decode cX9_scan 133 = .ok (.invokestatic 75, 3) := by decide +kernel
theorem dX9_scan_136 : decode cX9_scan 136 = .ok (.ifCond .eq 79, 3) := by decide +kernel
theorem dX9_scan_139 : decode cX9_scan 139 = .ok (.aload_n 0, 1) := by decide +kernel
theorem dX9_scan_140 : decode cX9_scan 140 = .ok (.iconst 0, 1) := by decide +kernel
theorem dX9_scan_141 : decode cX9_scan 141 = .ok (.putfield 228, 3) := by decide +kernel
theorem dX9_scan_144 : decode cX9_scan 144 = .ok (.aload_n 0, 1) := by decide +kernel
theorem dX9_scan_145 : decode cX9_scan 145 = .ok (.aload_n 0, 1) := by decide +kernel
theorem dX9_scan_146 : decode cX9_scan 146 = .ok (.getfield 211, 3) := by decide +kernel
theorem dX9_scan_149 : decode cX9_scan 149 = .ok (.invokevirtual 214, 3) := by decide +kernel
theorem dX9_scan_152 : decode cX9_scan 152 = .ok (.i2l, 1) := by decide +kernel
theorem dX9_scan_153 : decode cX9_scan 153 = .ok (.ldc2_w 224, 3) := by decide +kernel
theorem dX9_scan_156 : decode cX9_scan 156 = .ok (.ldc2_w 226, 3) := by decide +kernel
theorem dX9_scan_159 : decode cX9_scan 159 = .ok (.invokestatic 75, 3) := by decide +kernel
theorem dX9_scan_162 : decode cX9_scan 162 = .ok (.ifCond .eq 45, 3) := by decide +kernel
theorem dX9_scan_165 : decode cX9_scan 165 = .ok (.aload_n 0, 1) := by decide +kernel
theorem dX9_scan_166 : decode cX9_scan 166 = .ok (.sipush 9999, 3) := by decide +kernel
theorem dX9_scan_169 : decode cX9_scan 169 = .ok (.bipush 10, 2) := by decide +kernel
theorem dX9_scan_171 : decode cX9_scan 171 = .ok (.aload_n 0, 1) := by decide +kernel
theorem dX9_scan_172 : decode cX9_scan 172 = .ok (.getfield 228, 3) := by decide +kernel
theorem dX9_scan_175 : decode cX9_scan 175 = .ok (.imul, 1) := by decide +kernel
theorem dX9_scan_176 : decode cX9_scan 176 = .ok (.aload_n 0, 1) := by decide +kernel
theorem dX9_scan_177 : decode cX9_scan 177 = .ok (.aload_n 0, 1) := by decide +kernel
theorem dX9_scan_178 : decode cX9_scan 178 = .ok (.getfield 211, 3) := by decide +kernel
theorem dX9_scan_181 : decode cX9_scan 181 = .ok (.invokevirtual 214, 3) := by decide +kernel
theorem dX9_scan_184 : decode cX9_scan 184 = .ok (.iadd, 1) := by decide +kernel
theorem dX9_scan_185 : decode cX9_scan 185 = .ok (.bipush 48, 2) := by decide +kernel
theorem dX9_scan_187 : decode cX9_scan 187 = .ok (.isub, 1) := by decide +kernel
theorem dX9_scan_188 : decode cX9_scan 188 = .ok (.invokestatic 231, 3) := by decide +kernel
theorem dX9_scan_191 : decode cX9_scan 191 = .ok (.putfield 228, 3) := by decide +kernel
theorem dX9_scan_194 : decode cX9_scan 194 = .ok (.aload_n 0, 1) := by decide +kernel
theorem dX9_scan_195 : decode cX9_scan 195 = .ok (.dup, 1) := by decide +kernel
theorem dX9_scan_196 : decode cX9_scan 196 = .ok (.getfield 211, 3) := by decide +kernel
theorem dX9_scan_199 : decode cX9_scan 199 = .ok (.iconst 1, 1) := by decide +kernel
theorem dX9_scan_200 : decode cX9_scan 200 = .ok (.iadd, 1) := by decide +kernel
theorem dX9_scan_201 : decode cX9_scan 201 = .ok (.putfield 211, 3) := by decide +kernel
theorem dX9_scan_204 : decode cX9_scan 204 = .ok (.goto (-60), 3) := by decide +kernel
theorem dX9_scan_207 : decode cX9_scan 207 = .ok (.aload_n 0, 1) := by decide +kernel
theorem dX9_scan_208 : decode cX9_scan 208 = .ok (.iconst 2, 1) := by decide +kernel
theorem dX9_scan_209 : decode cX9_scan 209 = .ok (.putfield 217, 3) := by decide +kernel
theorem dX9_scan_212 : decode cX9_scan 212 = .ok (.goto 23, 3) := by decide +kernel
theorem dX9_scan_215 : decode cX9_scan 215 = .ok (.aload_n 0, 1) := by decide +kernel
theorem dX9_scan_216 : decode cX9_scan 216 = .ok (.iconst 3, 1) := by decide +kernel
theorem dX9_scan_217 : decode cX9_scan 217 = .ok (.putfield 217, 3) := by decide +kernel
theorem dX9_scan_220 : decode cX9_scan 220 = .ok (.aload_n 0, 1) := by decide +kernel
theorem dX9_scan_221 : decode cX9_scan 221 = .ok (.iload_n 1, 1) := by decide +kernel
theorem dX9_scan_222 : decode cX9_scan 222 = .ok (.putfield 228, 3) := by decide +kernel
theorem dX9_scan_225 : decode cX9_scan 225 = .ok (.aload_n 0, 1) := by decide +kernel
theorem dX9_scan_226 : decode cX9_scan 226 = .ok (.dup, 1) := by decide +kernel
theorem dX9_scan_227 : decode cX9_scan 227 = .ok (.getfield 211, 3) := by decide +kernel
theorem dX9_scan_230 : decode cX9_scan 230 = .ok (.iconst 1, 1) := by decide +kernel
theorem dX9_scan_231 : decode cX9_scan 231 = .ok (.iadd, 1) := by decide +kernel
theorem dX9_scan_232 : decode cX9_scan 232 = .ok (.putfield 211, 3) := by decide +kernel
theorem dX9_scan_235 : decode cX9_scan 235 = .ok (.return_, 1) := by decide +kernel
theorem dX9_goOn_0 : decode cX9_goOn 0 = .ok (.aload_n 0, 1) := by decide +kernel
theorem dX9_goOn_1 : decode cX9_goOn 1 = .ok (.invokevirtual 201, 3) := by decide +kernel
theorem dX9_goOn_4 : decode cX9_goOn 4 = .ok (.ifCond .eq 7, 3) := by decide +kernel
theorem dX9_goOn_7 : decode cX9_goOn 7 = .ok (.aload_n 0, 1) := by decide +kernel
theorem dX9_goOn_8 : decode cX9_goOn 8 = .ok (.invokevirtual 234, 3) := by decide +kernel
theorem dX9_goOn_11 : decode cX9_goOn 11 = .ok (.return_, 1) := by decide +kernel
theorem dX9_isWord_0 : decode cX9_isWord 0 = .ok (.aload_n 0, 1) := by decide +kernel
theorem dX9_isWord_1 : decode cX9_isWord 1 = .ok (.invokevirtual 201, 3) := by decide +kernel
theorem dX9_isWord_4 : decode cX9_isWord 4 = .ok (.ifCond .eq 31, 3) := by decide +kernel
theorem dX9_isWord_7 : decode cX9_isWord 7 = .ok (.aload_n 0, 1) := by decide +kernel
theorem dX9_isWord_8 : decode cX9_isWord 8 = .ok (.getfield 217, 3) := by decide +kernel
theorem dX9_isWord_11 : decode cX9_isWord 11 = .ok (.iconst 1, 1) := by decide +kernel
theorem dX9_isWord_12 : decode cX9_isWord 12 = .ok (.if_icmp .ne 23, 3) := by decide +kernel
theorem dX9_isWord_15 : decode cX9_isWord 15 = .ok (.aload_n 0, 1) := by decide +kernel
theorem dX9_isWord_16 : decode cX9_isWord 16 = .ok (.getfield 211, 3) := by decide +kernel
theorem dX9_isWord_19 : decode cX9_isWord 19 = .ok (.aload_n 0, 1) := by decide +kernel
theorem dX9_isWord_20 : decode cX9_isWord 20 = .ok (.getfield 205, 3) := by decide +kernel
theorem dX9_isWord_23 : decode cX9_isWord 23 = .ok (.isub, 1) := by decide +kernel
theorem dX9_isWord_24 : decode cX9_isWord 24 = .ok (.aload_n 1, 1) := by decide +kernel
theorem dX9_isWord_25 : decode cX9_isWord 25 = .ok (.invokevirtual 237, 3) := by decide +kernel
theorem dX9_isWord_28 : decode cX9_isWord 28 = .ok (.if_icmp .ne 7, 3) := by decide +kernel
theorem dX9_isWord_31 : decode cX9_isWord 31 = .ok (.iconst 1, 1) := by decide +kernel
theorem dX9_isWord_32 : decode cX9_isWord 32 = .ok (.goto 4, 3) := by decide +kernel
theorem dX9_isWord_35 : decode cX9_isWord 35 = .ok (.iconst 0, 1) := by decide +kernel
theorem dX9_isWord_36 : decode cX9_isWord 36 = .ok (.istore_n 2, 1) := by decide +kernel
theorem dX9_isWord_37 : decode cX9_isWord 37 = .ok (.iconst 0, 1) := by decide +kernel
theorem dX9_isWord_38 : decode cX9_isWord 38 = .ok (.istore_n 3, 1) := by decide +kernel
theorem dX9_isWord_39 : decode cX9_isWord 39 = .ok (.iload_n 3, 1) := by decide +kernel
theorem dX9_isWord_40 : decode cX9_isWord 40 = .ok (.aload_n 1, 1) := by decide +kernel
theorem dX9_isWord_41 : decode cX9_isWord 41 = .ok (.invokevirtual 237, 3) := by decide +kernel
theorem dX9_isWord_44 : decode cX9_isWord 44 = .ok (.if_icmp .ge 38, 3) := by decide +kernel
theorem dX9_isWord_47 : decode cX9_isWord 47 = .ok (.iload_n 2, 1) := by decide +kernel
theorem dX9_isWord_48 : decode cX9_isWord 48 = .ok (.ifCond .eq 34, 3) := by decide +kernel
theorem dX9_isWord_51 : decode cX9_isWord 51 = .ok (.aload_n 0, 1) := by decide +kernel
theorem dX9_isWord_52 : decode cX9_isWord 52 = .ok (.getfield 48, 3) := by decide +kernel
theorem dX9_isWord_55 : decode cX9_isWord 55 = .ok (.aload_n 0, 1) := by decide +kernel
theorem dX9_isWord_56 : decode cX9_isWord 56 = .ok (.getfield 205, 3) := by decide +kernel
theorem dX9_isWord_59 : decode cX9_isWord 59 = .ok (.iload_n 3, 1) := by decide +kernel
theorem dX9_isWord_60 : decode cX9_isWord 60 = .ok (.iadd, 1) := by decide +kernel
theorem dX9_isWord_61 : decode cX9_isWord 61 = .ok (.baload, 1) := by decide +kernel
theorem dX9_isWord_62 : decode cX9_isWord 62 = .ok (.aload_n 1, 1) := by decide +kernel
theorem dX9_isWord_63 : decode cX9_isWord 63 = .ok (.iload_n 3, 1) := by decide +kernel
theorem dX9_isWord_64 : decode cX9_isWord 64 = .ok (.invokevirtual 242, 3) := by decide +kernel
theorem dX9_isWord_67 : decode cX9_isWord 67 = .ok (.if_icmp .ne 7, 3) := by decide +kernel
theorem dX9_isWord_70 : decode cX9_isWord 70 = .ok (.iconst 1, 1) := by decide +kernel
theorem dX9_isWord_71 : decode cX9_isWord 71 = .ok (.goto 4, 3) := by decide +kernel
theorem dX9_isWord_74 : decode cX9_isWord 74 = .ok (.iconst 0, 1) := by decide +kernel
theorem dX9_isWord_75 : decode cX9_isWord 75 = .ok (.istore_n 2, 1) := by decide +kernel
theorem dX9_isWord_76 : decode cX9_isWord 76 = .ok (.iinc 3 1, 3) := by decide +kernel
theorem dX9_isWord_79 : decode cX9_isWord 79 = .ok (.goto (-40), 3) := by decide +kernel
theorem dX9_isWord_82 : decode cX9_isWord 82 = .ok (.iload_n 2, 1) := by decide +kernel
theorem dX9_isWord_83 : decode cX9_isWord 83 = .ok (.ireturn, 1) := by decide +kernel
theorem dX9_numberHere_0 : decode cX9_numberHere 0 = .ok (.aload_n 0, 1) := by decide +kernel
theorem dX9_numberHere_1 : decode cX9_numberHere 1 = .ok (.invokevirtual 201, 3) := by decide +kernel
theorem dX9_numberHere_4 : decode cX9_numberHere 4 = .ok (.ifCond .eq 16, 3) := by decide +kernel
theorem dX9_numberHere_7 : decode cX9_numberHere 7 = .ok (.aload_n 0, 1) := by decide +kernel
theorem dX9_numberHere_8 : decode cX9_numberHere 8 = .ok (.getfield 217, 3) := by decide +kernel
theorem dX9_numberHere_11 : decode cX9_numberHere 11 = .ok (.iconst 2, 1) := by decide +kernel
theorem dX9_numberHere_12 : decode cX9_numberHere 12 = .ok (.if_icmp .eq 8, 3) := by decide +kernel
theorem dX9_numberHere_15 : decode cX9_numberHere 15 = .ok (.aload_n 0, 1) := by decide +kernel
theorem dX9_numberHere_16 : decode cX9_numberHere 16 = .ok (.iconst 1, 1) := by decide +kernel
theorem dX9_numberHere_17 : decode cX9_numberHere 17 = .ok (.invokevirtual 246, 3) := by decide +kernel
theorem dX9_numberHere_20 : decode cX9_numberHere 20 = .ok (.aload_n 0, 1) := by decide +kernel
theorem dX9_numberHere_21 : decode cX9_numberHere 21 = .ok (.invokevirtual 201, 3) := by decide +kernel
theorem dX9_numberHere_24 : decode cX9_numberHere 24 = .ok (.ifCond .eq 23, 3) := by decide +kernel
theorem dX9_numberHere_27 : decode cX9_numberHere 27 = .ok (.aload_n 0, 1) := by decide +kernel
theorem dX9_numberHere_28 : decode cX9_numberHere 28 = .ok (.getfield 228, 3) := by decide +kernel
theorem dX9_numberHere_31 : decode cX9_numberHere 31 = .ok (.i2l, 1) := by decide +kernel
theorem dX9_numberHere_32 : decode cX9_numberHere 32 = .ok (.iload_n 1, 1) := by decide +kernel
theorem dX9_numberHere_33 : decode cX9_numberHere 33 = .ok (.i2l, 1) := by decide +kernel
theorem dX9_numberHere_34 : decode cX9_numberHere 34 = .ok (.iload_n 2, 1) := by decide +kernel
theorem dX9_numberHere_35 : decode cX9_numberHere 35 = .ok (.i2l, 1) := by decide +kernel
theorem dX9_numberHere_36 : decode cX9_numberHere 36 = .ok (.invokestatic 75, 3) := by decide +kernel
theorem dX9_numberHere_39 : decode cX9_numberHere 39 = .ok (.ifCond .ne 8, 3) := by decide +kernel
theorem dX9_numberHere_42 : decode cX9_numberHere 42 = .ok (.aload_n 0, 1) := by decide +kernel
theorem dX9_numberHere_43 : decode cX9_numberHere 43 = .ok (.iconst 2, 1) := by decide +kernel
theorem dX9_numberHere_44 : decode cX9_numberHere 44 = .ok (.invokevirtual 246, 3) := by decide +kernel
theorem dX9_numberHere_47 : decode cX9_numberHere 47 = .ok (.aload_n 0, 1) := by decide +kernel
theorem dX9_numberHere_48 : decode cX9_numberHere 48 = .ok (.invokevirtual 201, 3) := by decide +kernel
theorem dX9_numberHere_51 : decode cX9_numberHere 51 = .ok (.ifCond .eq 10, 3) := by decide +kernel
theorem dX9_numberHere_54 : decode cX9_numberHere 54 = .ok (.aload_n 0, 1) := by decide +kernel
theorem dX9_numberHere_55 : decode cX9_numberHere 55 = .ok (.getfield 228, 3) := by decide +kernel
theorem dX9_numberHere_58 : decode cX9_numberHere 58 = .ok (.goto 4, 3) := by decide +kernel
theorem dX9_numberHere_61 : decode cX9_numberHere 61 = .ok (.iload_n 1, 1) := by decide +kernel
theorem dX9_numberHere_62 : decode cX9_numberHere 62 = .ok (.ireturn, 1) := by decide +kernel
theorem dX9_number_0 : decode cX9_number 0 = .ok (.aload_n 0, 1) := by decide +kernel
theorem dX9_number_1 : decode cX9_number 1 = .ok (.iload_n 1, 1) := by decide +kernel
theorem dX9_number_2 : decode cX9_number 2 = .ok (.iload_n 2, 1) := by decide +kernel
theorem dX9_number_3 : decode cX9_number 3 = .ok (.invokevirtual 249, 3) := by decide +kernel
theorem dX9_number_6 : decode cX9_number 6 = .ok (.istore_n 3, 1) := by decide +kernel
theorem dX9_number_7 : decode cX9_number 7 = .ok (.aload_n 0, 1) := by decide +kernel
theorem dX9_number_8 : decode cX9_number 8 = .ok (.invokevirtual 252, 3) := by decide +kernel
theorem dX9_number_11 : decode cX9_number 11 = .ok (.iload_n 3, 1) := by decide +kernel
theorem dX9_number_12 : decode cX9_number 12 = .ok (.ireturn, 1) := by decide +kernel
theorem dX9_takeWord_0 : decode cX9_takeWord 0 = .ok (.aload_n 0, 1) := by decide +kernel
theorem dX9_takeWord_1 : decode cX9_takeWord 1 = .ok (.aload_n 1, 1) := by decide +kernel
theorem dX9_takeWord_2 : decode cX9_takeWord 2 = .ok (.invokevirtual 255, 3) := by decide +kernel
theorem dX9_takeWord_5 : decode cX9_takeWord 5 = .ok (.ifCond .ne 8, 3) := by decide +kernel
theorem dX9_takeWord_8 : decode cX9_takeWord 8 = .ok (.aload_n 0, 1) := by decide +kernel
theorem dX9_takeWord_9 : decode cX9_takeWord 9 = .ok (.iconst 1, 1) := by decide +kernel
theorem dX9_takeWord_10 : decode cX9_takeWord 10 = .ok (.invokevirtual 246, 3) := by decide +kernel
theorem dX9_takeWord_13 : decode cX9_takeWord 13 = .ok (.aload_n 0, 1) := by decide +kernel
theorem dX9_takeWord_14 : decode cX9_takeWord 14 = .ok (.invokevirtual 252, 3) := by decide +kernel
theorem dX9_takeWord_17 : decode cX9_takeWord 17 = .ok (.return_, 1) := by decide +kernel
theorem dX9_semicolon_0 : decode cX9_semicolon 0 = .ok (.aload_n 0, 1) := by decide +kernel
theorem dX9_semicolon_1 : decode cX9_semicolon 1 = .ok (.invokevirtual 201, 3) := by decide +kernel
theorem dX9_semicolon_4 : decode cX9_semicolon 4 = .ok (.ifCond .eq 20, 3) := by decide +kernel
theorem dX9_semicolon_7 : decode cX9_semicolon 7 = .ok (.aload_n 0, 1) := by decide +kernel
theorem dX9_semicolon_8 : decode cX9_semicolon 8 = .ok (.getfield 217, 3) := by decide +kernel
theorem dX9_semicolon_11 : decode cX9_semicolon 11 = .ok (.iconst 3, 1) := by decide +kernel
theorem dX9_semicolon_12 : decode cX9_semicolon 12 = .ok (.if_icmp .ne 12, 3) := by decide +kernel
theorem dX9_semicolon_15 : decode cX9_semicolon 15 = .ok (.aload_n 0, 1) := by decide +kernel
theorem dX9_semicolon_16 : decode cX9_semicolon 16 = .ok (.getfield 228, 3) := by decide +kernel
theorem dX9_semicolon_19 : decode cX9_semicolon 19 = .ok (.bipush 59, 2) := by decide +kernel
theorem dX9_semicolon_21 : decode cX9_semicolon 21 = .ok (.if_icmp .eq 8, 3) := by decide +kernel
theorem dX9_semicolon_24 : decode cX9_semicolon 24 = .ok (.aload_n 0, 1) := by decide +kernel
theorem dX9_semicolon_25 : decode cX9_semicolon 25 = .ok (.iconst 1, 1) := by decide +kernel
theorem dX9_semicolon_26 : decode cX9_semicolon 26 = .ok (.invokevirtual 246, 3) := by decide +kernel
theorem dX9_semicolon_29 : decode cX9_semicolon 29 = .ok (.aload_n 0, 1) := by decide +kernel
theorem dX9_semicolon_30 : decode cX9_semicolon 30 = .ok (.invokevirtual 252, 3) := by decide +kernel
theorem dX9_semicolon_33 : decode cX9_semicolon 33 = .ok (.return_, 1) := by decide +kernel
theorem dX9_errsIf_0 : decode cX9_errsIf 0 = .ok (.aload_n 0, 1) := by decide +kernel
theorem dX9_errsIf_1 : decode cX9_errsIf 1 = .ok (.invokevirtual 201, 3) := by decide +kernel
theorem dX9_errsIf_4 : decode cX9_errsIf 4 = .ok (.ifCond .eq 12, 3) := by decide +kernel
theorem dX9_errsIf_7 : decode cX9_errsIf 7 = .ok (.iload_n 1, 1) := by decide +kernel
theorem dX9_errsIf_8 : decode cX9_errsIf 8 = .ok (.ifCond .eq 8, 3) := by decide +kernel
theorem dX9_errsIf_11 : decode cX9_errsIf 11 = .ok (.aload_n 0, 1) := by decide +kernel
theorem dX9_errsIf_12 : decode cX9_errsIf 12 = .ok (.iload_n 2, 1) := by decide +kernel
theorem dX9_errsIf_13 : decode cX9_errsIf 13 = .ok (.invokevirtual 246, 3) := by decide +kernel
theorem dX9_errsIf_16 : decode cX9_errsIf 16 = .ok (.return_, 1) := by decide +kernel
theorem dX9_isSign_0 : decode cX9_isSign 0 = .ok (.aload_n 0, 1) := by decide +kernel
theorem dX9_isSign_1 : decode cX9_isSign 1 = .ok (.invokevirtual 201, 3) := by decide +kernel
theorem dX9_isSign_4 : decode cX9_isSign 4 = .ok (.ifCond .eq 23, 3) := by decide +kernel
theorem dX9_isSign_7 : decode cX9_isSign 7 = .ok (.aload_n 0, 1) := by decide +kernel
theorem dX9_isSign_8 : decode cX9_isSign 8 = .ok (.getfield 217, 3) := by decide +kernel
theorem dX9_isSign_11 : decode cX9_isSign 11 = .ok (.iconst 3, 1) := by decide +kernel
theorem dX9_isSign_12 : decode cX9_isSign 12 = .ok (.if_icmp .ne 15, 3) := by decide +kernel
theorem dX9_isSign_15 : decode cX9_isSign 15 = .ok (.aload_n 0, 1) := by decide +kernel
theorem dX9_isSign_16 : decode cX9_isSign 16 = .ok (.getfield 228, 3) := by decide +kernel
theorem dX9_isSign_19 : decode cX9_isSign 19 = .ok (.iload_n 1, 1) := by decide +kernel
theorem dX9_isSign_20 : decode cX9_isSign 20 = .ok (.if_icmp .ne 7, 3) := by decide +kernel
theorem dX9_isSign_23 : decode cX9_isSign 23 = .ok (.iconst 1, 1) := by decide +kernel
theorem dX9_isSign_24 : decode cX9_isSign 24 = .ok (.goto 4, 3) := by decide +kernel
theorem dX9_isSign_27 : decode cX9_isSign 27 = .ok (.iconst 0, 1) := by decide +kernel
theorem dX9_isSign_28 : decode cX9_isSign 28 = .ok (.ireturn, 1) := by decide +kernel
theorem dX9_isW_0 : decode cX9_isW 0 = .ok (.aload_n 0, 1) := by decide +kernel
theorem dX9_isW_1 : decode cX9_isW 1 = .ok (.getfield 217, 3) := by decide +kernel
theorem dX9_isW_4 : decode cX9_isW 4 = .ok (.iconst 1, 1) := by decide +kernel
theorem dX9_isW_5 : decode cX9_isW 5 = .ok (.if_icmp .eq 11, 3) := by decide +kernel
theorem dX9_isW_8 : decode cX9_isW 8 = .ok (.aload_n 0, 1) := by decide +kernel
theorem dX9_isW_9 : decode cX9_isW 9 = .ok (.getfield 217, 3) := by decide +kernel
theorem dX9_isW_12 : decode cX9_isW 12 = .ok (.iconst 2, 1) := by decide +kernel
theorem dX9_isW_13 : decode cX9_isW 13 = .ok (.if_icmp .ne 7, 3) := by decide +kernel
theorem dX9_isW_16 : decode cX9_isW 16 = .ok (.iconst 1, 1) := by decide +kernel
theorem dX9_isW_17 : decode cX9_isW 17 = .ok (.goto 4, 3) := by decide +kernel
theorem dX9_isW_20 : decode cX9_isW 20 = .ok (.iconst 0, 1) := by decide +kernel
theorem dX9_isW_21 : decode cX9_isW 21 = .ok (.ireturn, 1) := by decide +kernel
theorem dX9_parseSlab_0 : decode cX9_parseSlab 0 = .ok (.aload_n 0, 1) := by decide +kernel
theorem dX9_parseSlab_1 : decode cX9_parseSlab 1 = .ok (.ldc_w 259, 3) := by decide +kernel
theorem dX9_parseSlab_4 : decode cX9_parseSlab 4 = .ok (.invokevirtual 261, 3) := by decide +kernel
theorem dX9_parseSlab_7 : decode cX9_parseSlab 7 = .ok (.aload_n 0, 1) := by decide +kernel
theorem dX9_parseSlab_8 : decode cX9_parseSlab 8 = .ok (.getfield 24, 3) := by decide +kernel
theorem dX9_parseSlab_11 : decode cX9_parseSlab 11 = .ok (.iconst 0, 1) := by decide +kernel
theorem dX9_parseSlab_12 : decode cX9_parseSlab 12 = .ok (.aload_n 0, 1) := by decide +kernel
theorem dX9_parseSlab_13 : decode cX9_parseSlab 13 = .ok (.iconst 4, 1) := by decide +kernel
theorem dX9_parseSlab_14 : decode cX9_parseSlab 14 = .ok (.bipush 24, 2) := by decide +kernel
theorem dX9_parseSlab_16 : decode cX9_parseSlab 16 = .ok (.invokevirtual 265, 3) := by decide +kernel
theorem dX9_parseSlab_19 : decode cX9_parseSlab 19 = .ok (.iastore, 1) := by decide +kernel
theorem dX9_parseSlab_20 : decode cX9_parseSlab 20 = .ok (.aload_n 0, 1) := by decide +kernel
theorem dX9_parseSlab_21 : decode cX9_parseSlab 21 = .ok (.getfield 24, 3) := by decide +kernel
theorem dX9_parseSlab_24 : decode cX9_parseSlab 24 = .ok (.iconst 1, 1) := by decide +kernel
theorem dX9_parseSlab_25 : decode cX9_parseSlab 25 = .ok (.aload_n 0, 1) := by decide +kernel
theorem dX9_parseSlab_26 : decode cX9_parseSlab 26 = .ok (.iconst 2, 1) := by decide +kernel
theorem dX9_parseSlab_27 : decode cX9_parseSlab 27 = .ok (.bipush 12, 2) := by decide +kernel
theorem dX9_parseSlab_29 : decode cX9_parseSlab 29 = .ok (.invokevirtual 265, 3) := by decide +kernel
theorem dX9_parseSlab_32 : decode cX9_parseSlab 32 = .ok (.iastore, 1) := by decide +kernel
theorem dX9_parseSlab_33 : decode cX9_parseSlab 33 = .ok (.aload_n 0, 1) := by decide +kernel
theorem dX9_parseSlab_34 : decode cX9_parseSlab 34 = .ok (.invokevirtual 268, 3) := by decide +kernel
theorem dX9_parseSlab_37 : decode cX9_parseSlab 37 = .ok (.return_, 1) := by decide +kernel
theorem dX9_parseFlaws_0 : decode cX9_parseFlaws 0 = .ok (.iconst 1, 1) := by decide +kernel
theorem dX9_parseFlaws_1 : decode cX9_parseFlaws 1 = .ok (.istore_n 1, 1) := by decide +kernel
theorem dX9_parseFlaws_2 : decode cX9_parseFlaws 2 = .ok (.iload_n 1, 1) := by decide +kernel
theorem dX9_parseFlaws_3 : decode cX9_parseFlaws 3 = .ok (.ifCond .eq 108, 3) := by decide +kernel
theorem dX9_parseFlaws_6 : decode cX9_parseFlaws 6 = .ok (.aload_n 0, 1) := by decide +kernel
theorem dX9_parseFlaws_7 : decode cX9_parseFlaws 7 = .ok (.invokevirtual 252, 3) := by decide +kernel
theorem dX9_parseFlaws_10 : decode cX9_parseFlaws 10 = .ok (.aload_n 0, 1) := by decide +kernel
theorem dX9_parseFlaws_11 : decode cX9_parseFlaws 11 = .ok (.iconst 0, 1) := by decide +kernel
theorem dX9_parseFlaws_12 : decode cX9_parseFlaws 12 = .ok (.aload_n 0, 1) := by decide +kernel
theorem dX9_parseFlaws_13 : decode cX9_parseFlaws 13 = .ok (.invokevirtual 71, 3) := by decide +kernel
theorem dX9_parseFlaws_16 : decode cX9_parseFlaws 16 = .ok (.iconst 1, 1) := by decide +kernel
theorem dX9_parseFlaws_17 : decode cX9_parseFlaws 17 = .ok (.isub, 1) := by decide +kernel
theorem dX9_parseFlaws_18 : decode cX9_parseFlaws 18 = .ok (.invokevirtual 249, 3) := by decide +kernel
theorem dX9_parseFlaws_21 : decode cX9_parseFlaws 21 = .ok (.istore_n 2, 1) := by decide +kernel
theorem dX9_parseFlaws_22 : decode cX9_parseFlaws 22 = .ok (.aload_n 0, 1) := by decide +kernel
theorem dX9_parseFlaws_23 : decode cX9_parseFlaws 23 = .ok (.aload_n 0, 1) := by decide +kernel
theorem dX9_parseFlaws_24 : decode cX9_parseFlaws 24 = .ok (.invokevirtual 271, 3) := by decide +kernel
theorem dX9_parseFlaws_27 : decode cX9_parseFlaws 27 = .ok (.bipush 40, 2) := by decide +kernel
theorem dX9_parseFlaws_29 : decode cX9_parseFlaws 29 = .ok (.if_icmp .ne 7, 3) := by decide +kernel
theorem dX9_parseFlaws_32 : decode cX9_parseFlaws 32 = .ok (.iconst 1, 1) := by decide +kernel
theorem dX9_parseFlaws_33 : decode cX9_parseFlaws 33 = .ok (.goto 4, 3) := by decide +kernel
theorem dX9_parseFlaws_36 : decode cX9_parseFlaws 36 = .ok (.iconst 0, 1) := by decide +kernel
theorem dX9_parseFlaws_37 : decode cX9_parseFlaws 37 = .ok (.iconst 5, 1) := by decide +kernel
theorem dX9_parseFlaws_38 : decode cX9_parseFlaws 38 = .ok (.invokevirtual 274, 3) := by decide +kernel
theorem dX9_parseFlaws_41 : decode cX9_parseFlaws 41 = .ok (.aload_n 0, 1) := by decide +kernel
theorem dX9_parseFlaws_42 : decode cX9_parseFlaws 42 = .ok (.invokevirtual 252, 3) := by decide +kernel
theorem dX9_parseFlaws_45 : decode cX9_parseFlaws 45 = .ok (.aload_n 0, 1) := by decide +kernel
theorem dX9_parseFlaws_46 : decode cX9_parseFlaws 46 = .ok (.iconst 0, 1) := by decide +kernel
theorem dX9_parseFlaws_47 : decode cX9_parseFlaws 47 = .ok (.aload_n 0, 1) := by decide +kernel
theorem dX9_parseFlaws_48 : decode cX9_parseFlaws 48 = .ok (.invokevirtual 79, 3) := by decide +kernel
theorem dX9_parseFlaws_51 : decode cX9_parseFlaws 51 = .ok (.iconst 1, 1) := by decide +kernel
theorem dX9_parseFlaws_52 : decode cX9_parseFlaws 52 = .ok (.isub, 1) := by decide +kernel
theorem dX9_parseFlaws_53 : decode cX9_parseFlaws 53 = .ok (.invokevirtual 249, 3) := by decide +kernel
theorem dX9_parseFlaws_56 : decode cX9_parseFlaws 56 = .ok (.istore_n 3, 1) := by decide +kernel
theorem dX9_parseFlaws_57 : decode cX9_parseFlaws 57 = .ok (.aload_n 0, 1) := by decide +kernel
theorem dX9_parseFlaws_58 : decode cX9_parseFlaws 58 = .ok (.aload_n 0, 1) := by decide +kernel
theorem dX9_parseFlaws_59 : decode cX9_parseFlaws 59 = .ok (.invokevirtual 201, 3) := by decide +kernel
theorem dX9_parseFlaws_62 : decode cX9_parseFlaws 62 = .ok (.ifCond .eq 16, 3) := by decide +kernel
theorem dX9_parseFlaws_65 : decode cX9_parseFlaws 65 = .ok (.aload_n 0, 1) := by decide +kernel
theorem dX9_parseFlaws_66 : decode cX9_parseFlaws 66 = .ok (.iload_n 2, 1) := by decide +kernel
theorem dX9_parseFlaws_67 : decode cX9_parseFlaws 67 = .ok (.iload_n 3, 1) := by decide +kernel
theorem dX9_parseFlaws_68 : decode cX9_parseFlaws 68 = .ok (.invokevirtual 93, 3) := by decide +kernel
theorem dX9_parseFlaws_71 : decode cX9_parseFlaws 71 = .ok (.ifCond .eq 7, 3) := by decide +kernel
theorem dX9_parseFlaws_74 : decode cX9_parseFlaws 74 = .ok (.iconst 1, 1) := by decide +kernel
theorem dX9_parseFlaws_75 : decode cX9_parseFlaws 75 = .ok (.goto 4, 3) := by decide +kernel
theorem dX9_parseFlaws_78 : decode cX9_parseFlaws 78 = .ok (.iconst 0, 1) := by decide +kernel
theorem dX9_parseFlaws_79 : decode cX9_parseFlaws 79 = .ok (.iconst 3, 1) := by decide +kernel
theorem dX9_parseFlaws_80 : decode cX9_parseFlaws 80 = .ok (.invokevirtual 274, 3) := by decide +kernel
theorem dX9_parseFlaws_83 : decode cX9_parseFlaws 83 = .ok (.aload_n 0, 1) := by decide +kernel
theorem dX9_parseFlaws_84 : decode cX9_parseFlaws 84 = .ok (.invokevirtual 201, 3) := by decide +kernel
theorem dX9_parseFlaws_87 : decode cX9_parseFlaws 87 = .ok (.ifCond .eq 10, 3) := by decide +kernel
theorem dX9_parseFlaws_90 : decode cX9_parseFlaws 90 = .ok (.aload_n 0, 1) := by decide +kernel
theorem dX9_parseFlaws_91 : decode cX9_parseFlaws 91 = .ok (.iload_n 2, 1) := by decide +kernel
theorem dX9_parseFlaws_92 : decode cX9_parseFlaws 92 = .ok (.iload_n 3, 1) := by decide +kernel
theorem dX9_parseFlaws_93 : decode cX9_parseFlaws 93 = .ok (.iconst 1, 1) := by decide +kernel
theorem dX9_parseFlaws_94 : decode cX9_parseFlaws 94 = .ok (.invokevirtual 175, 3) := by decide +kernel
theorem dX9_parseFlaws_97 : decode cX9_parseFlaws 97 = .ok (.aload_n 0, 1) := by decide +kernel
theorem dX9_parseFlaws_98 : decode cX9_parseFlaws 98 = .ok (.invokevirtual 252, 3) := by decide +kernel
theorem dX9_parseFlaws_101 : decode cX9_parseFlaws 101 = .ok (.aload_n 0, 1) := by decide +kernel
theorem dX9_parseFlaws_102 : decode cX9_parseFlaws 102 = .ok (.bipush 44, 2) := by decide +kernel
theorem dX9_parseFlaws_104 : decode cX9_parseFlaws 104 = .ok (.invokevirtual 278, 3) := by decide +kernel
theorem dX9_parseFlaws_107 : decode cX9_parseFlaws 107 = .ok (.istore_n 1, 1) := by decide +kernel
theorem dX9_parseFlaws_108 : decode cX9_parseFlaws 108 = .ok (.goto (-106), 3) := by decide +kernel
theorem dX9_parseFlaws_111 : decode cX9_parseFlaws 111 = .ok (.aload_n 0, 1) := by decide +kernel
theorem dX9_parseFlaws_112 : decode cX9_parseFlaws 112 = .ok (.invokevirtual 268, 3) := by decide +kernel
theorem dX9_parseFlaws_115 : decode cX9_parseFlaws 115 = .ok (.return_, 1) := by decide +kernel
theorem dX9_parseGap_0 : decode cX9_parseGap 0 = .ok (.aload_n 0, 1) := by decide +kernel
theorem dX9_parseGap_1 : decode cX9_parseGap 1 = .ok (.aload_n 0, 1) := by decide +kernel
theorem dX9_parseGap_2 : decode cX9_parseGap 2 = .ok (.getfield 281, 3) := by decide +kernel
theorem dX9_parseGap_5 : decode cX9_parseGap 5 = .ok (.iconst 3, 1) := by decide +kernel
theorem dX9_parseGap_6 : decode cX9_parseGap 6 = .ok (.invokevirtual 274, 3) := by decide +kernel
theorem dX9_parseGap_9 : decode cX9_parseGap 9 = .ok (.aload_n 0, 1) := by decide +kernel
theorem dX9_parseGap_10 : decode cX9_parseGap 10 = .ok (.iconst 1, 1) := by decide +kernel
theorem dX9_parseGap_11 : decode cX9_parseGap 11 = .ok (.putfield 281, 3) := by decide +kernel
theorem dX9_parseGap_14 : decode cX9_parseGap 14 = .ok (.aload_n 0, 1) := by decide +kernel
theorem dX9_parseGap_15 : decode cX9_parseGap 15 = .ok (.invokevirtual 252, 3) := by decide +kernel
theorem dX9_parseGap_18 : decode cX9_parseGap 18 = .ok (.aload_n 0, 1) := by decide +kernel
theorem dX9_parseGap_19 : decode cX9_parseGap 19 = .ok (.getfield 24, 3) := by decide +kernel
theorem dX9_parseGap_22 : decode cX9_parseGap 22 = .ok (.iconst 2, 1) := by decide +kernel
theorem dX9_parseGap_23 : decode cX9_parseGap 23 = .ok (.aload_n 0, 1) := by decide +kernel
theorem dX9_parseGap_24 : decode cX9_parseGap 24 = .ok (.iconst 0, 1) := by decide +kernel
theorem dX9_parseGap_25 : decode cX9_parseGap 25 = .ok (.iconst 3, 1) := by decide +kernel
theorem dX9_parseGap_26 : decode cX9_parseGap 26 = .ok (.invokevirtual 265, 3) := by decide +kernel
theorem dX9_parseGap_29 : decode cX9_parseGap 29 = .ok (.iastore, 1) := by decide +kernel
theorem dX9_parseGap_30 : decode cX9_parseGap 30 = .ok (.aload_n 0, 1) := by decide +kernel
theorem dX9_parseGap_31 : decode cX9_parseGap 31 = .ok (.invokevirtual 268, 3) := by decide +kernel
theorem dX9_parseGap_34 : decode cX9_parseGap 34 = .ok (.return_, 1) := by decide +kernel
theorem dX9_parseChisel_0 : decode cX9_parseChisel 0 = .ok (.aload_n 0, 1) := by decide +kernel
theorem dX9_parseChisel_1 : decode cX9_parseChisel 1 = .ok (.aload_n 0, 1) := by decide +kernel
theorem dX9_parseChisel_2 : decode cX9_parseChisel 2 = .ok (.getfield 285, 3) := by decide +kernel
theorem dX9_parseChisel_5 : decode cX9_parseChisel 5 = .ok (.iconst 3, 1) := by decide +kernel
theorem dX9_parseChisel_6 : decode cX9_parseChisel 6 = .ok (.invokevirtual 274, 3) := by decide +kernel
theorem dX9_parseChisel_9 : decode cX9_parseChisel 9 = .ok (.aload_n 0, 1) := by decide +kernel
theorem dX9_parseChisel_10 : decode cX9_parseChisel 10 = .ok (.iconst 1, 1) := by decide +kernel
theorem dX9_parseChisel_11 : decode cX9_parseChisel 11 = .ok (.putfield 285, 3) := by decide +kernel
theorem dX9_parseChisel_14 : decode cX9_parseChisel 14 = .ok (.aload_n 0, 1) := by decide +kernel
theorem dX9_parseChisel_15 : decode cX9_parseChisel 15 = .ok (.invokevirtual 252, 3) := by decide +kernel
theorem dX9_parseChisel_18 : decode cX9_parseChisel 18 = .ok (.aload_n 0, 1) := by decide +kernel
theorem dX9_parseChisel_19 : decode cX9_parseChisel 19 = .ok (.getfield 24, 3) := by decide +kernel
theorem dX9_parseChisel_22 : decode cX9_parseChisel 22 = .ok (.iconst 3, 1) := by decide +kernel
theorem dX9_parseChisel_23 : decode cX9_parseChisel 23 = .ok (.aload_n 0, 1) := by decide +kernel
theorem dX9_parseChisel_24 : decode cX9_parseChisel 24 = .ok (.iconst 1, 1) := by decide +kernel
theorem dX9_parseChisel_25 : decode cX9_parseChisel 25 = .ok (.sipush 999, 3) := by decide +kernel
theorem dX9_parseChisel_28 : decode cX9_parseChisel 28 = .ok (.invokevirtual 265, 3) := by decide +kernel
theorem dX9_parseChisel_31 : decode cX9_parseChisel 31 = .ok (.iastore, 1) := by decide +kernel
theorem dX9_parseChisel_32 : decode cX9_parseChisel 32 = .ok (.aload_n 0, 1) := by decide +kernel
theorem dX9_parseChisel_33 : decode cX9_parseChisel 33 = .ok (.getfield 24, 3) := by decide +kernel
theorem dX9_parseChisel_36 : decode cX9_parseChisel 36 = .ok (.iconst 4, 1) := by decide +kernel
theorem dX9_parseChisel_37 : decode cX9_parseChisel 37 = .ok (.aload_n 0, 1) := by decide +kernel
theorem dX9_parseChisel_38 : decode cX9_parseChisel 38 = .ok (.iconst 0, 1) := by decide +kernel
theorem dX9_parseChisel_39 : decode cX9_parseChisel 39 = .ok (.bipush 99, 2) := by decide +kernel
theorem dX9_parseChisel_41 : decode cX9_parseChisel 41 = .ok (.invokevirtual 265, 3) := by decide +kernel
theorem dX9_parseChisel_44 : decode cX9_parseChisel 44 = .ok (.iastore, 1) := by decide +kernel
theorem dX9_parseChisel_45 : decode cX9_parseChisel 45 = .ok (.aload_n 0, 1) := by decide +kernel
theorem dX9_parseChisel_46 : decode cX9_parseChisel 46 = .ok (.invokevirtual 268, 3) := by decide +kernel
theorem dX9_parseChisel_49 : decode cX9_parseChisel 49 = .ok (.return_, 1) := by decide +kernel
theorem dX9_addWord_0 : decode cX9_addWord 0 = .ok (.sipush 319, 3) := by decide +kernel
theorem dX9_addWord_3 : decode cX9_addWord 3 = .ok (.bipush 13, 2) := by decide +kernel
theorem dX9_addWord_5 : decode cX9_addWord 5 = .ok (.aload_n 0, 1) := by decide +kernel
theorem dX9_addWord_6 : decode cX9_addWord 6 = .ok (.getfield 24, 3) := by decide +kernel
theorem dX9_addWord_9 : decode cX9_addWord 9 = .ok (.bipush 10, 2) := by decide +kernel
theorem dX9_addWord_11 : decode cX9_addWord 11 = .ok (.iaload, 1) := by decide +kernel
theorem dX9_addWord_12 : decode cX9_addWord 12 = .ok (.imul, 1) := by decide +kernel
theorem dX9_addWord_13 : decode cX9_addWord 13 = .ok (.iadd, 1) := by decide +kernel
theorem dX9_addWord_14 : decode cX9_addWord 14 = .ok (.istore_n 1, 1) := by decide +kernel
theorem dX9_addWord_15 : decode cX9_addWord 15 = .ok (.aload_n 0, 1) := by decide +kernel
theorem dX9_addWord_16 : decode cX9_addWord 16 = .ok (.getfield 24, 3) := by decide +kernel
theorem dX9_addWord_19 : decode cX9_addWord 19 = .ok (.iload_n 1, 1) := by decide +kernel
theorem dX9_addWord_20 : decode cX9_addWord 20 = .ok (.aload_n 0, 1) := by decide +kernel
theorem dX9_addWord_21 : decode cX9_addWord 21 = .ok (.getfield 211, 3) := by decide +kernel
theorem dX9_addWord_24 : decode cX9_addWord 24 = .ok (.aload_n 0, 1) := by decide +kernel
theorem dX9_addWord_25 : decode cX9_addWord 25 = .ok (.getfield 205, 3) := by decide +kernel
theorem dX9_addWord_28 : decode cX9_addWord 28 = .ok (.isub, 1) := by decide +kernel
theorem dX9_addWord_29 : decode cX9_addWord 29 = .ok (.iastore, 1) := by decide +kernel
theorem dX9_addWord_30 : decode cX9_addWord 30 = .ok (.aload_n 0, 1) := by decide +kernel
theorem dX9_addWord_31 : decode cX9_addWord 31 = .ok (.getfield 205, 3) := by decide +kernel
theorem dX9_addWord_34 : decode cX9_addWord 34 = .ok (.istore_n 2, 1) := by decide +kernel
theorem dX9_addWord_35 : decode cX9_addWord 35 = .ok (.iload_n 2, 1) := by decide +kernel
theorem dX9_addWord_36 : decode cX9_addWord 36 = .ok (.aload_n 0, 1) := by decide +kernel
theorem dX9_addWord_37 : decode cX9_addWord 37 = .ok (.getfield 211, 3) := by decide +kernel
theorem dX9_addWord_40 : decode cX9_addWord 40 = .ok (.if_icmp .ge 30, 3) := by decide +kernel
theorem dX9_addWord_43 : decode cX9_addWord 43 = .ok (.aload_n 0, 1) := by decide +kernel
theorem dX9_addWord_44 : decode cX9_addWord 44 = .ok (.getfield 24, 3) := by decide +kernel
theorem dX9_addWord_47 : decode cX9_addWord 47 = .ok (.iload_n 1, 1) := by decide +kernel
theorem dX9_addWord_48 : decode cX9_addWord 48 = .ok (.iconst 1, 1) := by decide +kernel
theorem dX9_addWord_49 : decode cX9_addWord 49 = .ok (.iadd, 1) := by decide +kernel
theorem dX9_addWord_50 : decode cX9_addWord 50 = .ok (.iload_n 2, 1) := by decide +kernel
theorem dX9_addWord_51 : decode cX9_addWord 51 = .ok (.iadd, 1) := by decide +kernel
theorem dX9_addWord_52 : decode cX9_addWord 52 = .ok (.aload_n 0, 1) := by decide +kernel
theorem dX9_addWord_53 : decode cX9_addWord 53 = .ok (.getfield 205, 3) := by decide +kernel
theorem dX9_addWord_56 : decode cX9_addWord 56 = .ok (.isub, 1) := by decide +kernel
theorem dX9_addWord_57 : decode cX9_addWord 57 = .ok (.aload_n 0, 1) := by decide +kernel
theorem dX9_addWord_58 : decode cX9_addWord 58 = .ok (.getfield 48, 3) := by decide +kernel
theorem dX9_addWord_61 : decode cX9_addWord 61 = .ok (.iload_n 2, 1) := by decide +kernel
theorem dX9_addWord_62 : decode cX9_addWord 62 = .ok (.baload, 1) := by decide +kernel
theorem dX9_addWord_63 : decode cX9_addWord 63 = .ok (.iastore, 1) := by decide +kernel
theorem dX9_addWord_64 : decode cX9_addWord 64 = .ok (.iinc 2 1, 3) := by decide +kernel
theorem dX9_addWord_67 : decode cX9_addWord 67 = .ok (.goto (-32), 3) := by decide +kernel
theorem dX9_addWord_70 : decode cX9_addWord 70 = .ok (.aload_n 0, 1) := by decide +kernel
theorem dX9_addWord_71 : decode cX9_addWord 71 = .ok (.getfield 24, 3) := by decide +kernel
theorem dX9_addWord_74 : decode cX9_addWord 74 = .ok (.bipush 10, 2) := by decide +kernel
theorem dX9_addWord_76 : decode cX9_addWord 76 = .ok (.dup2, 1) := by decide +kernel
theorem dX9_addWord_77 : decode cX9_addWord 77 = .ok (.iaload, 1) := by decide +kernel
theorem dX9_addWord_78 : decode cX9_addWord 78 = .ok (.iconst 1, 1) := by decide +kernel
theorem dX9_addWord_79 : decode cX9_addWord 79 = .ok (.iadd, 1) := by decide +kernel
theorem dX9_addWord_80 : decode cX9_addWord 80 = .ok (.iastore, 1) := by decide +kernel
theorem dX9_addWord_81 : decode cX9_addWord 81 = .ok (.return_, 1) := by decide +kernel
theorem dX9_takeW_0 : decode cX9_takeW 0 = .ok (.aload_n 0, 1) := by decide +kernel
theorem dX9_takeW_1 : decode cX9_takeW 1 = .ok (.aload_n 0, 1) := by decide +kernel
theorem dX9_takeW_2 : decode cX9_takeW 2 = .ok (.invokevirtual 288, 3) := by decide +kernel
theorem dX9_takeW_5 : decode cX9_takeW 5 = .ok (.ifCond .eq 17, 3) := by decide +kernel
theorem dX9_takeW_8 : decode cX9_takeW 8 = .ok (.aload_n 0, 1) := by decide +kernel
theorem dX9_takeW_9 : decode cX9_takeW 9 = .ok (.getfield 211, 3) := by decide +kernel
theorem dX9_takeW_12 : decode cX9_takeW 12 = .ok (.aload_n 0, 1) := by decide +kernel
theorem dX9_takeW_13 : decode cX9_takeW 13 = .ok (.getfield 205, 3) := by decide +kernel
theorem dX9_takeW_16 : decode cX9_takeW 16 = .ok (.isub, 1) := by decide +kernel
theorem dX9_takeW_17 : decode cX9_takeW 17 = .ok (.bipush 12, 2) := by decide +kernel
theorem dX9_takeW_19 : decode cX9_takeW 19 = .ok (.if_icmp .le 7, 3) := by decide +kernel
theorem dX9_takeW_22 : decode cX9_takeW 22 = .ok (.iconst 1, 1) := by decide +kernel
theorem dX9_takeW_23 : decode cX9_takeW 23 = .ok (.goto 4, 3) := by decide +kernel
theorem dX9_takeW_26 : decode cX9_takeW 26 = .ok (.iconst 0, 1) := by decide +kernel
theorem dX9_takeW_27 : decode cX9_takeW 27 = .ok (.iconst 1, 1) := by decide +kernel
theorem dX9_takeW_28 : decode cX9_takeW 28 = .ok (.invokevirtual 274, 3) := by decide +kernel
theorem dX9_takeW_31 : decode cX9_takeW 31 = .ok (.aload_n 0, 1) := by decide +kernel
theorem dX9_takeW_32 : decode cX9_takeW 32 = .ok (.aload_n 0, 1) := by decide +kernel
theorem dX9_takeW_33 : decode cX9_takeW 33 = .ok (.getfield 211, 3) := by decide +kernel
theorem dX9_takeW_36 : decode cX9_takeW 36 = .ok (.aload_n 0, 1) := by decide +kernel
theorem dX9_takeW_37 : decode cX9_takeW 37 = .ok (.getfield 205, 3) := by decide +kernel
theorem dX9_takeW_40 : decode cX9_takeW 40 = .ok (.isub, 1) := by decide +kernel
theorem dX9_takeW_41 : decode cX9_takeW 41 = .ok (.aload_n 0, 1) := by decide +kernel
theorem dX9_takeW_42 : decode cX9_takeW 42 = .ok (.invokevirtual 71, 3) := by decide +kernel
theorem dX9_takeW_45 : decode cX9_takeW 45 = .ok (.if_icmp .le 7, 3) := by decide +kernel
theorem dX9_takeW_48 : decode cX9_takeW 48 = .ok (.iconst 1, 1) := by decide +kernel
theorem dX9_takeW_49 : decode cX9_takeW 49 = .ok (.goto 4, 3) := by decide +kernel
theorem dX9_takeW_52 : decode cX9_takeW 52 = .ok (.iconst 0, 1) := by decide +kernel
theorem dX9_takeW_53 : decode cX9_takeW 53 = .ok (.iconst 4, 1) := by decide +kernel
theorem dX9_takeW_54 : decode cX9_takeW 54 = .ok (.invokevirtual 274, 3) := by decide +kernel
theorem dX9_takeW_57 : decode cX9_takeW 57 = .ok (.aload_n 0, 1) := by decide +kernel
theorem dX9_takeW_58 : decode cX9_takeW 58 = .ok (.aload_n 0, 1) := by decide +kernel
theorem dX9_takeW_59 : decode cX9_takeW 59 = .ok (.getfield 24, 3) := by decide +kernel
theorem dX9_takeW_62 : decode cX9_takeW 62 = .ok (.bipush 10, 2) := by decide +kernel
theorem dX9_takeW_64 : decode cX9_takeW 64 = .ok (.iaload, 1) := by decide +kernel
theorem dX9_takeW_65 : decode cX9_takeW 65 = .ok (.bipush 60, 2) := by decide +kernel
theorem dX9_takeW_67 : decode cX9_takeW 67 = .ok (.if_icmp .ne 7, 3) := by decide +kernel
theorem dX9_takeW_70 : decode cX9_takeW 70 = .ok (.iconst 1, 1) := by decide +kernel
theorem dX9_takeW_71 : decode cX9_takeW 71 = .ok (.goto 4, 3) := by decide +kernel
theorem dX9_takeW_74 : decode cX9_takeW 74 = .ok (.iconst 0, 1) := by decide +kernel
theorem dX9_takeW_75 : decode cX9_takeW 75 = .ok (.iconst 5, 1) := by decide +kernel
theorem dX9_takeW_76 : decode cX9_takeW 76 = .ok (.invokevirtual 274, 3) := by decide +kernel
theorem dX9_takeW_79 : decode cX9_takeW 79 = .ok (.aload_n 0, 1) := by decide +kernel
theorem dX9_takeW_80 : decode cX9_takeW 80 = .ok (.invokevirtual 201, 3) := by decide +kernel
theorem dX9_takeW_83 : decode cX9_takeW 83 = .ok (.ifCond .eq 7, 3) := by decide +kernel
theorem dX9_takeW_86 : decode cX9_takeW 86 = .ok (.aload_n 0, 1) := by decide +kernel
theorem dX9_takeW_87 : decode cX9_takeW 87 = .ok (.invokevirtual 291, 3) := by decide +kernel
theorem dX9_takeW_90 : decode cX9_takeW 90 = .ok (.aload_n 0, 1) := by decide +kernel
theorem dX9_takeW_91 : decode cX9_takeW 91 = .ok (.invokevirtual 252, 3) := by decide +kernel
theorem dX9_takeW_94 : decode cX9_takeW 94 = .ok (.return_, 1) := by decide +kernel
theorem dX9_parsePart_0 : decode cX9_parsePart 0 = .ok (.aload_n 0, 1) := by decide +kernel
theorem dX9_parsePart_1 : decode cX9_parsePart 1 = .ok (.aload_n 0, 1) := by decide +kernel
theorem dX9_parsePart_2 : decode cX9_parsePart 2 = .ok (.getfield 24, 3) := by decide +kernel
theorem dX9_parsePart_5 : decode cX9_parsePart 5 = .ok (.bipush 9, 2) := by decide +kernel
theorem dX9_parsePart_7 : decode cX9_parsePart 7 = .ok (.iaload, 1) := by decide +kernel
theorem dX9_parsePart_8 : decode cX9_parsePart 8 = .ok (.bipush 10, 2) := by decide +kernel
theorem dX9_parsePart_10 : decode cX9_parsePart 10 = .ok (.if_icmp .ne 7, 3) := by decide +kernel
theorem dX9_parsePart_13 : decode cX9_parsePart 13 = .ok (.iconst 1, 1) := by decide +kernel
theorem dX9_parsePart_14 : decode cX9_parsePart 14 = .ok (.goto 4, 3) := by decide +kernel
theorem dX9_parsePart_17 : decode cX9_parsePart 17 = .ok (.iconst 0, 1) := by decide +kernel
theorem dX9_parsePart_18 : decode cX9_parsePart 18 = .ok (.iconst 5, 1) := by decide +kernel
theorem dX9_parsePart_19 : decode cX9_parsePart 19 = .ok (.invokevirtual 274, 3) := by decide +kernel
theorem dX9_parsePart_22 : decode cX9_parsePart 22 = .ok (.aload_n 0, 1) := by decide +kernel
theorem dX9_parsePart_23 : decode cX9_parsePart 23 = .ok (.invokevirtual 252, 3) := by decide +kernel
theorem dX9_parsePart_26 : decode cX9_parsePart 26 = .ok (.aload_n 0, 1) := by decide +kernel
theorem dX9_parsePart_27 : decode cX9_parsePart 27 = .ok (.getfield 24, 3) := by decide +kernel
theorem dX9_parsePart_30 : decode cX9_parsePart 30 = .ok (.bipush 10, 2) := by decide +kernel
theorem dX9_parsePart_32 : decode cX9_parsePart 32 = .ok (.iaload, 1) := by decide +kernel
theorem dX9_parsePart_33 : decode cX9_parsePart 33 = .ok (.istore_n 2, 1) := by decide +kernel
theorem dX9_parsePart_34 : decode cX9_parsePart 34 = .ok (.aload_n 0, 1) := by decide +kernel
theorem dX9_parsePart_35 : decode cX9_parsePart 35 = .ok (.invokevirtual 294, 3) := by decide +kernel
theorem dX9_parsePart_38 : decode cX9_parsePart 38 = .ok (.aload_n 0, 1) := by decide +kernel
theorem dX9_parsePart_39 : decode cX9_parsePart 39 = .ok (.invokevirtual 201, 3) := by decide +kernel
theorem dX9_parsePart_42 : decode cX9_parsePart 42 = .ok (.ifCond .eq 19, 3) := by decide +kernel
theorem dX9_parsePart_45 : decode cX9_parsePart 45 = .ok (.aload_n 0, 1) := by decide +kernel
theorem dX9_parsePart_46 : decode cX9_parsePart 46 = .ok (.bipush 59, 2) := by decide +kernel
theorem dX9_parsePart_48 : decode cX9_parsePart 48 = .ok (.invokevirtual 278, 3) := by decide +kernel
theorem dX9_parsePart_51 : decode cX9_parsePart 51 = .ok (.ifCond .ne 10, 3) := by decide +kernel
theorem dX9_parsePart_54 : decode cX9_parsePart 54 = .ok (.aload_n 0, 1) := by decide +kernel
theorem dX9_parsePart_55 : decode cX9_parsePart 55 = .ok (.invokevirtual 294, 3) := by decide +kernel
theorem dX9_parsePart_58 : decode cX9_parsePart 58 = .ok (.goto (-20), 3) := by decide +kernel
theorem dX9_parsePart_61 : decode cX9_parsePart 61 = .ok (.aload_n 0, 1) := by decide +kernel
theorem dX9_parsePart_62 : decode cX9_parsePart 62 = .ok (.invokevirtual 268, 3) := by decide +kernel
theorem dX9_parsePart_65 : decode cX9_parsePart 65 = .ok (.aload_n 0, 1) := by decide +kernel
theorem dX9_parsePart_66 : decode cX9_parsePart 66 = .ok (.invokevirtual 201, 3) := by decide +kernel
theorem dX9_parsePart_69 : decode cX9_parsePart 69 = .ok (.ifCond .eq 9, 3) := by decide +kernel
theorem dX9_parsePart_72 : decode cX9_parsePart 72 = .ok (.aload_n 0, 1) := by decide +kernel
theorem dX9_parsePart_73 : decode cX9_parsePart 73 = .ok (.iload_n 1, 1) := by decide +kernel
theorem dX9_parsePart_74 : decode cX9_parsePart 74 = .ok (.iload_n 2, 1) := by decide +kernel
theorem dX9_parsePart_75 : decode cX9_parsePart 75 = .ok (.invokevirtual 297, 3) := by decide +kernel
theorem dX9_parsePart_78 : decode cX9_parsePart 78 = .ok (.return_, 1) := by decide +kernel
theorem dX9_addPartOf_0 : decode cX9_addPartOf 0 = .ok (.aload_n 0, 1) := by decide +kernel
theorem dX9_addPartOf_1 : decode cX9_addPartOf 1 = .ok (.getfield 24, 3) := by decide +kernel
theorem dX9_addPartOf_4 : decode cX9_addPartOf 4 = .ok (.bipush 9, 2) := by decide +kernel
theorem dX9_addPartOf_6 : decode cX9_addPartOf 6 = .ok (.iaload, 1) := by decide +kernel
theorem dX9_addPartOf_7 : decode cX9_addPartOf 7 = .ok (.istore_n 3, 1) := by decide +kernel
theorem dX9_addPartOf_8 : decode cX9_addPartOf 8 = .ok (.aload_n 0, 1) := by decide +kernel
theorem dX9_addPartOf_9 : decode cX9_addPartOf 9 = .ok (.getfield 24, 3) := by decide +kernel
theorem dX9_addPartOf_12 : decode cX9_addPartOf 12 = .ok (.sipush 299, 3) := by decide +kernel
theorem dX9_addPartOf_15 : decode cX9_addPartOf 15 = .ok (.iconst 2, 1) := by decide +kernel
theorem dX9_addPartOf_16 : decode cX9_addPartOf 16 = .ok (.iload_n 3, 1) := by decide +kernel
theorem dX9_addPartOf_17 : decode cX9_addPartOf 17 = .ok (.imul, 1) := by decide +kernel
theorem dX9_addPartOf_18 : decode cX9_addPartOf 18 = .ok (.iadd, 1) := by decide +kernel
theorem dX9_addPartOf_19 : decode cX9_addPartOf 19 = .ok (.iconst 0, 1) := by decide +kernel
theorem dX9_addPartOf_20 : decode cX9_addPartOf 20 = .ok (.iadd, 1) := by decide +kernel
theorem dX9_addPartOf_21 : decode cX9_addPartOf 21 = .ok (.iload_n 1, 1) := by decide +kernel
theorem dX9_addPartOf_22 : decode cX9_addPartOf 22 = .ok (.iastore, 1) := by decide +kernel
theorem dX9_addPartOf_23 : decode cX9_addPartOf 23 = .ok (.aload_n 0, 1) := by decide +kernel
theorem dX9_addPartOf_24 : decode cX9_addPartOf 24 = .ok (.getfield 24, 3) := by decide +kernel
theorem dX9_addPartOf_27 : decode cX9_addPartOf 27 = .ok (.sipush 299, 3) := by decide +kernel
theorem dX9_addPartOf_30 : decode cX9_addPartOf 30 = .ok (.iconst 2, 1) := by decide +kernel
theorem dX9_addPartOf_31 : decode cX9_addPartOf 31 = .ok (.iload_n 3, 1) := by decide +kernel
theorem dX9_addPartOf_32 : decode cX9_addPartOf 32 = .ok (.imul, 1) := by decide +kernel
theorem dX9_addPartOf_33 : decode cX9_addPartOf 33 = .ok (.iadd, 1) := by decide +kernel
theorem dX9_addPartOf_34 : decode cX9_addPartOf 34 = .ok (.iconst 1, 1) := by decide +kernel
theorem dX9_addPartOf_35 : decode cX9_addPartOf 35 = .ok (.iadd, 1) := by decide +kernel
theorem dX9_addPartOf_36 : decode cX9_addPartOf 36 = .ok (.aload_n 0, 1) := by decide +kernel
theorem dX9_addPartOf_37 : decode cX9_addPartOf 37 = .ok (.getfield 24, 3) := by decide +kernel
theorem dX9_addPartOf_40 : decode cX9_addPartOf 40 = .ok (.bipush 10, 2) := by decide +kernel
theorem dX9_addPartOf_42 : decode cX9_addPartOf 42 = .ok (.iaload, 1) := by decide +kernel
theorem dX9_addPartOf_43 : decode cX9_addPartOf 43 = .ok (.iload_n 2, 1) := by decide +kernel
theorem dX9_addPartOf_44 : decode cX9_addPartOf 44 = .ok (.isub, 1) := by decide +kernel
theorem dX9_addPartOf_45 : decode cX9_addPartOf 45 = .ok (.iastore, 1) := by decide +kernel
theorem dX9_addPartOf_46 : decode cX9_addPartOf 46 = .ok (.aload_n 0, 1) := by decide +kernel
theorem dX9_addPartOf_47 : decode cX9_addPartOf 47 = .ok (.getfield 24, 3) := by decide +kernel
theorem dX9_addPartOf_50 : decode cX9_addPartOf 50 = .ok (.bipush 9, 2) := by decide +kernel
theorem dX9_addPartOf_52 : decode cX9_addPartOf 52 = .ok (.dup2, 1) := by decide +kernel
theorem dX9_addPartOf_53 : decode cX9_addPartOf 53 = .ok (.iaload, 1) := by decide +kernel
theorem dX9_addPartOf_54 : decode cX9_addPartOf 54 = .ok (.iconst 1, 1) := by decide +kernel
theorem dX9_addPartOf_55 : decode cX9_addPartOf 55 = .ok (.iadd, 1) := by decide +kernel
theorem dX9_addPartOf_56 : decode cX9_addPartOf 56 = .ok (.iastore, 1) := by decide +kernel
theorem dX9_addPartOf_57 : decode cX9_addPartOf 57 = .ok (.return_, 1) := by decide +kernel
theorem dX9_parseStatement_0 : decode cX9_parseStatement 0 = .ok (.aload_n 0, 1) := by decide +kernel
theorem dX9_parseStatement_1 : decode cX9_parseStatement 1 = .ok (.ldc_w 300, 3) := by decide +kernel
theorem dX9_parseStatement_4 : decode cX9_parseStatement 4 = .ok (.invokevirtual 255, 3) := by decide +kernel
theorem dX9_parseStatement_7 : decode cX9_parseStatement 7 = .ok (.ifCond .eq 10, 3) := by decide +kernel
theorem dX9_parseStatement_10 : decode cX9_parseStatement 10 = .ok (.aload_n 0, 1) := by decide +kernel
theorem dX9_parseStatement_11 : decode cX9_parseStatement 11 = .ok (.invokevirtual 302, 3) := by decide +kernel
theorem dX9_parseStatement_14 : decode cX9_parseStatement 14 = .ok (.goto 96, 3) := by decide +kernel
theorem dX9_parseStatement_17 : decode cX9_parseStatement 17 = .ok (.aload_n 0, 1) := by decide +kernel
theorem dX9_parseStatement_18 : decode cX9_parseStatement 18 = .ok (.ldc_w 305, 3) := by decide +kernel
theorem dX9_parseStatement_21 : decode cX9_parseStatement 21 = .ok (.invokevirtual 255, 3) := by decide +kernel
theorem dX9_parseStatement_24 : decode cX9_parseStatement 24 = .ok (.ifCond .eq 10, 3) := by decide +kernel
theorem dX9_parseStatement_27 : decode cX9_parseStatement 27 = .ok (.aload_n 0, 1) := by decide +kernel
theorem dX9_parseStatement_28 : decode cX9_parseStatement 28 = .ok (.invokevirtual 307, 3) := by decide +kernel
theorem dX9_parseStatement_31 : decode cX9_parseStatement 31 = .ok (.goto 79, 3) := by decide +kernel
theorem dX9_parseStatement_34 : decode cX9_parseStatement 34 = .ok (.aload_n 0, 1) := by decide +kernel
theorem dX9_parseStatement_35 : decode cX9_parseStatement 35 = .ok (.ldc_w 310, 3) := by decide +kernel
theorem dX9_parseStatement_38 : decode cX9_parseStatement 38 = .ok (.invokevirtual 255, 3) := by decide +kernel
theorem dX9_parseStatement_41 : decode cX9_parseStatement 41 = .ok (.ifCond .eq 10, 3) := by decide +kernel
theorem dX9_parseStatement_44 : decode cX9_parseStatement 44 = .ok (.aload_n 0, 1) := by decide +kernel
theorem dX9_parseStatement_45 : decode cX9_parseStatement 45 = .ok (.invokevirtual 312, 3) := by decide +kernel
theorem dX9_parseStatement_48 : decode cX9_parseStatement 48 = .ok (.goto 62, 3) := by decide +kernel
theorem dX9_parseStatement_51 : decode cX9_parseStatement 51 = .ok (.aload_n 0, 1) := by decide +kernel
theorem dX9_parseStatement_52 : decode cX9_parseStatement 52 = .ok (.ldc_w 315, 3) := by decide +kernel
theorem dX9_parseStatement_55 : decode cX9_parseStatement 55 = .ok (.invokevirtual 255, 3) := by decide +kernel
theorem dX9_parseStatement_58 : decode cX9_parseStatement 58 = .ok (.ifCond .eq 11, 3) := by decide +kernel
theorem dX9_parseStatement_61 : decode cX9_parseStatement 61 = .ok (.aload_n 0, 1) := by decide +kernel
theorem dX9_parseStatement_62 : decode cX9_parseStatement 62 = .ok (.iconst 0, 1) := by decide +kernel
theorem dX9_parseStatement_63 : decode cX9_parseStatement 63 = .ok (.invokevirtual 317, 3) := by decide +kernel
theorem dX9_parseStatement_66 : decode cX9_parseStatement 66 = .ok (.goto 44, 3) := by decide +kernel
theorem dX9_parseStatement_69 : decode cX9_parseStatement 69 = .ok (.aload_n 0, 1) := by decide +kernel
theorem dX9_parseStatement_70 : decode cX9_parseStatement 70 = .ok (.ldc_w 320, 3) := by decide +kernel
theorem dX9_parseStatement_73 : decode cX9_parseStatement 73 = .ok (.invokevirtual 255, 3) := by decide +kernel
theorem dX9_parseStatement_76 : decode cX9_parseStatement 76 = .ok (.ifCond .eq 11, 3) := by decide +kernel
theorem dX9_parseStatement_79 : decode cX9_parseStatement 79 = .ok (.aload_n 0, 1) := by decide +kernel
theorem dX9_parseStatement_80 : decode cX9_parseStatement 80 = .ok (.iconst 1, 1) := by decide +kernel
theorem dX9_parseStatement_81 : decode cX9_parseStatement 81 = .ok (.invokevirtual 317, 3) := by decide +kernel
theorem dX9_parseStatement_84 : decode cX9_parseStatement 84 = .ok (.goto 26, 3) := by decide +kernel
theorem dX9_parseStatement_87 : decode cX9_parseStatement 87 = .ok (.aload_n 0, 1) := by decide +kernel
theorem dX9_parseStatement_88 : decode cX9_parseStatement 88 = .ok (.ldc_w 322, 3) := by decide +kernel
theorem dX9_parseStatement_91 : decode cX9_parseStatement 91 = .ok (.invokevirtual 255, 3) := by decide +kernel
theorem dX9_parseStatement_94 : decode cX9_parseStatement 94 = .ok (.ifCond .eq 11, 3) := by decide +kernel
theorem dX9_parseStatement_97 : decode cX9_parseStatement 97 = .ok (.aload_n 0, 1) := by decide +kernel
theorem dX9_parseStatement_98 : decode cX9_parseStatement 98 = .ok (.iconst 2, 1) := by decide +kernel
theorem dX9_parseStatement_99 : decode cX9_parseStatement 99 = .ok (.invokevirtual 317, 3) := by decide +kernel
theorem dX9_parseStatement_102 : decode cX9_parseStatement 102 = .ok (.goto 8, 3) := by decide +kernel
theorem dX9_parseStatement_105 : decode cX9_parseStatement 105 = .ok (.aload_n 0, 1) := by decide +kernel
theorem dX9_parseStatement_106 : decode cX9_parseStatement 106 = .ok (.iconst 1, 1) := by decide +kernel
theorem dX9_parseStatement_107 : decode cX9_parseStatement 107 = .ok (.invokevirtual 246, 3) := by decide +kernel
theorem dX9_parseStatement_110 : decode cX9_parseStatement 110 = .ok (.return_, 1) := by decide +kernel
theorem dX9_beginText_0 : decode cX9_beginText 0 = .ok (.aload_n 0, 1) := by decide +kernel
theorem dX9_beginText_1 : decode cX9_beginText 1 = .ok (.aload_n 0, 1) := by decide +kernel
theorem dX9_beginText_2 : decode cX9_beginText 2 = .ok (.getfield 188, 3) := by decide +kernel
theorem dX9_beginText_5 : decode cX9_beginText 5 = .ok (.putfield 208, 3) := by decide +kernel
theorem dX9_beginText_8 : decode cX9_beginText 8 = .ok (.aload_n 0, 1) := by decide +kernel
theorem dX9_beginText_9 : decode cX9_beginText 9 = .ok (.iconst 0, 1) := by decide +kernel
theorem dX9_beginText_10 : decode cX9_beginText 10 = .ok (.putfield 188, 3) := by decide +kernel
theorem dX9_beginText_13 : decode cX9_beginText 13 = .ok (.aload_n 0, 1) := by decide +kernel
theorem dX9_beginText_14 : decode cX9_beginText 14 = .ok (.iconst 0, 1) := by decide +kernel
theorem dX9_beginText_15 : decode cX9_beginText 15 = .ok (.putfield 211, 3) := by decide +kernel
theorem dX9_beginText_18 : decode cX9_beginText 18 = .ok (.aload_n 0, 1) := by decide +kernel
theorem dX9_beginText_19 : decode cX9_beginText 19 = .ok (.iconst 0, 1) := by decide +kernel
theorem dX9_beginText_20 : decode cX9_beginText 20 = .ok (.putfield 198, 3) := by decide +kernel
theorem dX9_beginText_23 : decode cX9_beginText 23 = .ok (.aload_n 0, 1) := by decide +kernel
theorem dX9_beginText_24 : decode cX9_beginText 24 = .ok (.iconst (-1), 1) := by decide +kernel
theorem dX9_beginText_25 : decode cX9_beginText 25 = .ok (.putfield 52, 3) := by decide +kernel
theorem dX9_beginText_28 : decode cX9_beginText 28 = .ok (.aload_n 0, 1) := by decide +kernel
theorem dX9_beginText_29 : decode cX9_beginText 29 = .ok (.aload_n 0, 1) := by decide +kernel
theorem dX9_beginText_30 : decode cX9_beginText 30 = .ok (.getfield 21, 3) := by decide +kernel
theorem dX9_beginText_33 : decode cX9_beginText 33 = .ok (.putfield 24, 3) := by decide +kernel
theorem dX9_beginText_36 : decode cX9_beginText 36 = .ok (.return_, 1) := by decide +kernel
theorem dX9_load_0 : decode cX9_load 0 = .ok (.aload_n 0, 1) := by decide +kernel
theorem dX9_load_1 : decode cX9_load 1 = .ok (.iconst 0, 1) := by decide +kernel
theorem dX9_load_2 : decode cX9_load 2 = .ok (.putfield 3, 3) := by decide +kernel
theorem dX9_load_5 : decode cX9_load 5 = .ok (.aload_n 0, 1) := by decide +kernel
theorem dX9_load_6 : decode cX9_load 6 = .ok (.iconst 0, 1) := by decide +kernel
theorem dX9_load_7 : decode cX9_load 7 = .ok (.putfield 281, 3) := by decide +kernel
theorem dX9_load_10 : decode cX9_load 10 = .ok (.aload_n 0, 1) := by decide +kernel
theorem dX9_load_11 : decode cX9_load 11 = .ok (.iconst 0, 1) := by decide +kernel
theorem dX9_load_12 : decode cX9_load 12 = .ok (.putfield 285, 3) := by decide +kernel
theorem dX9_load_15 : decode cX9_load 15 = .ok (.aload_n 0, 1) := by decide +kernel
theorem dX9_load_16 : decode cX9_load 16 = .ok (.invokevirtual 324, 3) := by decide +kernel
theorem dX9_load_19 : decode cX9_load 19 = .ok (.aload_n 0, 1) := by decide +kernel
theorem dX9_load_20 : decode cX9_load 20 = .ok (.invokevirtual 68, 3) := by decide +kernel
theorem dX9_load_23 : decode cX9_load 23 = .ok (.aload_n 0, 1) := by decide +kernel
theorem dX9_load_24 : decode cX9_load 24 = .ok (.invokevirtual 234, 3) := by decide +kernel
theorem dX9_load_27 : decode cX9_load 27 = .ok (.aload_n 0, 1) := by decide +kernel
theorem dX9_load_28 : decode cX9_load 28 = .ok (.invokevirtual 327, 3) := by decide +kernel
theorem dX9_load_31 : decode cX9_load 31 = .ok (.aload_n 0, 1) := by decide +kernel
theorem dX9_load_32 : decode cX9_load 32 = .ok (.invokevirtual 201, 3) := by decide +kernel
theorem dX9_load_35 : decode cX9_load 35 = .ok (.ifCond .eq 17, 3) := by decide +kernel
theorem dX9_load_38 : decode cX9_load 38 = .ok (.aload_n 0, 1) := by decide +kernel
theorem dX9_load_39 : decode cX9_load 39 = .ok (.getfield 217, 3) := by decide +kernel
theorem dX9_load_42 : decode cX9_load 42 = .ok (.ifCond .eq 10, 3) := by decide +kernel
theorem dX9_load_45 : decode cX9_load 45 = .ok (.aload_n 0, 1) := by decide +kernel
theorem dX9_load_46 : decode cX9_load 46 = .ok (.invokevirtual 330, 3) := by decide +kernel
theorem dX9_load_49 : decode cX9_load 49 = .ok (.goto (-18), 3) := by decide +kernel
theorem dX9_load_52 : decode cX9_load 52 = .ok (.aload_n 0, 1) := by decide +kernel
theorem dX9_load_53 : decode cX9_load 53 = .ok (.getfield 24, 3) := by decide +kernel
theorem dX9_load_56 : decode cX9_load 56 = .ok (.iconst 5, 1) := by decide +kernel
theorem dX9_load_57 : decode cX9_load 57 = .ok (.aload_n 0, 1) := by decide +kernel
theorem dX9_load_58 : decode cX9_load 58 = .ok (.getfield 24, 3) := by decide +kernel
theorem dX9_load_61 : decode cX9_load 61 = .ok (.iconst 3, 1) := by decide +kernel
theorem dX9_load_62 : decode cX9_load 62 = .ok (.iaload, 1) := by decide +kernel
theorem dX9_load_63 : decode cX9_load 63 = .ok (.iastore, 1) := by decide +kernel
theorem dX9_load_64 : decode cX9_load 64 = .ok (.aload_n 0, 1) := by decide +kernel
theorem dX9_load_65 : decode cX9_load 65 = .ok (.aload_n 0, 1) := by decide +kernel
theorem dX9_load_66 : decode cX9_load 66 = .ok (.getfield 17, 3) := by decide +kernel
theorem dX9_load_69 : decode cX9_load 69 = .ok (.putfield 24, 3) := by decide +kernel
theorem dX9_load_72 : decode cX9_load 72 = .ok (.aload_n 0, 1) := by decide +kernel
theorem dX9_load_73 : decode cX9_load 73 = .ok (.invokevirtual 201, 3) := by decide +kernel
theorem dX9_load_76 : decode cX9_load 76 = .ok (.ifCond .ne 6, 3) := by decide +kernel
theorem dX9_load_79 : decode cX9_load 79 = .ok (.bipush (-4), 2) := by decide +kernel
theorem dX9_load_81 : decode cX9_load 81 = .ok (.ireturn, 1) := by decide +kernel
theorem dX9_load_82 : decode cX9_load 82 = .ok (.aload_n 0, 1) := by decide +kernel
theorem dX9_load_83 : decode cX9_load 83 = .ok (.invokevirtual 333, 3) := by decide +kernel
theorem dX9_load_86 : decode cX9_load 86 = .ok (.aload_n 0, 1) := by decide +kernel
theorem dX9_load_87 : decode cX9_load 87 = .ok (.invokevirtual 336, 3) := by decide +kernel
theorem dX9_load_90 : decode cX9_load 90 = .ok (.aload_n 0, 1) := by decide +kernel
theorem dX9_load_91 : decode cX9_load 91 = .ok (.invokevirtual 179, 3) := by decide +kernel
theorem dX9_load_94 : decode cX9_load 94 = .ok (.ireturn, 1) := by decide +kernel
theorem dX9_takeDraft_0 : decode cX9_takeDraft 0 = .ok (.iconst 0, 1) := by decide +kernel
theorem dX9_takeDraft_1 : decode cX9_takeDraft 1 = .ok (.istore_n 1, 1) := by decide +kernel
theorem dX9_takeDraft_2 : decode cX9_takeDraft 2 = .ok (.iload_n 1, 1) := by decide +kernel
theorem dX9_takeDraft_3 : decode cX9_takeDraft 3 = .ok (.sipush 1099, 3) := by decide +kernel
theorem dX9_takeDraft_6 : decode cX9_takeDraft 6 = .ok (.if_icmp .ge 21, 3) := by decide +kernel
theorem dX9_takeDraft_9 : decode cX9_takeDraft 9 = .ok (.aload_n 0, 1) := by decide +kernel
theorem dX9_takeDraft_10 : decode cX9_takeDraft 10 = .ok (.getfield 17, 3) := by decide +kernel
theorem dX9_takeDraft_13 : decode cX9_takeDraft 13 = .ok (.iload_n 1, 1) := by decide +kernel
theorem dX9_takeDraft_14 : decode cX9_takeDraft 14 = .ok (.aload_n 0, 1) := by decide +kernel
theorem dX9_takeDraft_15 : decode cX9_takeDraft 15 = .ok (.getfield 21, 3) := by decide +kernel
theorem dX9_takeDraft_18 : decode cX9_takeDraft 18 = .ok (.iload_n 1, 1) := by decide +kernel
theorem dX9_takeDraft_19 : decode cX9_takeDraft 19 = .ok (.iaload, 1) := by decide +kernel
theorem dX9_takeDraft_20 : decode cX9_takeDraft 20 = .ok (.iastore, 1) := by decide +kernel
theorem dX9_takeDraft_21 : decode cX9_takeDraft 21 = .ok (.iinc 1 1, 3) := by decide +kernel
theorem dX9_takeDraft_24 : decode cX9_takeDraft 24 = .ok (.goto (-22), 3) := by decide +kernel
theorem dX9_takeDraft_27 : decode cX9_takeDraft 27 = .ok (.return_, 1) := by decide +kernel
theorem dX9_errorCode_0 : decode cX9_errorCode 0 = .ok (.aload_n 0, 1) := by decide +kernel
theorem dX9_errorCode_1 : decode cX9_errorCode 1 = .ok (.iconst 0, 1) := by decide +kernel
theorem dX9_errorCode_2 : decode cX9_errorCode 2 = .ok (.putfield 3, 3) := by decide +kernel
theorem dX9_errorCode_5 : decode cX9_errorCode 5 = .ok (.aload_n 0, 1) := by decide +kernel
theorem dX9_errorCode_6 : decode cX9_errorCode 6 = .ok (.getfield 198, 3) := by decide +kernel
theorem dX9_errorCode_9 : decode cX9_errorCode 9 = .ok (.ireturn, 1) := by decide +kernel
theorem dX9_errorPosition_0 : decode cX9_errorPosition 0 = .ok (.aload_n 0, 1) := by decide +kernel
theorem dX9_errorPosition_1 : decode cX9_errorPosition 1 = .ok (.iconst 0, 1) := by decide +kernel
theorem dX9_errorPosition_2 : decode cX9_errorPosition 2 = .ok (.putfield 3, 3) := by decide +kernel
theorem dX9_errorPosition_5 : decode cX9_errorPosition 5 = .ok (.aload_n 0, 1) := by decide +kernel
theorem dX9_errorPosition_6 : decode cX9_errorPosition 6 = .ok (.getfield 52, 3) := by decide +kernel
theorem dX9_errorPosition_9 : decode cX9_errorPosition 9 = .ok (.ireturn, 1) := by decide +kernel
theorem dX9_property_0 : decode cX9_property 0 = .ok (.aload_n 0, 1) := by decide +kernel
theorem dX9_property_1 : decode cX9_property 1 = .ok (.iload_n 1, 1) := by decide +kernel
theorem dX9_property_2 : decode cX9_property 2 = .ok (.i2l, 1) := by decide +kernel
theorem dX9_property_3 : decode cX9_property 3 = .ok (.lconst 0, 1) := by decide +kernel
theorem dX9_property_4 : decode cX9_property 4 = .ok (.ldc2_w 339, 3) := by decide +kernel
theorem dX9_property_7 : decode cX9_property 7 = .ok (.invokestatic 75, 3) := by decide +kernel
theorem dX9_property_10 : decode cX9_property 10 = .ok (.invokevirtual 191, 3) := by decide +kernel
theorem dX9_property_13 : decode cX9_property 13 = .ok (.ifCond .ne 5, 3) := by decide +kernel
theorem dX9_property_16 : decode cX9_property 16 = .ok (.iconst 0, 1) := by decide +kernel
theorem dX9_property_17 : decode cX9_property 17 = .ok (.ireturn, 1) := by decide +kernel
theorem dX9_property_18 : decode cX9_property 18 = .ok (.aload_n 0, 1) := by decide +kernel
theorem dX9_property_19 : decode cX9_property 19 = .ok (.invokevirtual 179, 3) := by decide +kernel
theorem dX9_property_22 : decode cX9_property 22 = .ok (.istore_n 2, 1) := by decide +kernel
theorem dX9_property_23 : decode cX9_property 23 = .ok (.iload_n 1, 1) := by decide +kernel
theorem dX9_property_24 : decode cX9_property 24 = .ok (.tableswitch 150 0 12 #[68, 73, 78, 83, 90, 98, 106, 108, 113, 121, 128, 135, 142], 68) := by decide +kernel
theorem dX9_property_92 : decode cX9_property 92 = .ok (.aload_n 0, 1) := by decide +kernel
theorem dX9_property_93 : decode cX9_property 93 = .ok (.invokevirtual 71, 3) := by decide +kernel
theorem dX9_property_96 : decode cX9_property 96 = .ok (.ireturn, 1) := by decide +kernel
theorem dX9_property_97 : decode cX9_property 97 = .ok (.aload_n 0, 1) := by decide +kernel
theorem dX9_property_98 : decode cX9_property 98 = .ok (.invokevirtual 79, 3) := by decide +kernel
theorem dX9_property_101 : decode cX9_property 101 = .ok (.ireturn, 1) := by decide +kernel
theorem dX9_property_102 : decode cX9_property 102 = .ok (.aload_n 0, 1) := by decide +kernel
theorem dX9_property_103 : decode cX9_property 103 = .ok (.invokevirtual 271, 3) := by decide +kernel
theorem dX9_property_106 : decode cX9_property 106 = .ok (.ireturn, 1) := by decide +kernel
theorem dX9_property_107 : decode cX9_property 107 = .ok (.aload_n 0, 1) := by decide +kernel
theorem dX9_property_108 : decode cX9_property 108 = .ok (.getfield 17, 3) := by decide +kernel
theorem dX9_property_111 : decode cX9_property 111 = .ok (.iconst 2, 1) := by decide +kernel
theorem dX9_property_112 : decode cX9_property 112 = .ok (.iaload, 1) := by decide +kernel
theorem dX9_property_113 : decode cX9_property 113 = .ok (.ireturn, 1) := by decide +kernel
theorem dX9_property_114 : decode cX9_property 114 = .ok (.aload_n 0, 1) := by decide +kernel
theorem dX9_property_115 : decode cX9_property 115 = .ok (.getfield 17, 3) := by decide +kernel
theorem dX9_property_118 : decode cX9_property 118 = .ok (.bipush 9, 2) := by decide +kernel
theorem dX9_property_120 : decode cX9_property 120 = .ok (.iaload, 1) := by decide +kernel
theorem dX9_property_121 : decode cX9_property 121 = .ok (.ireturn, 1) := by decide +kernel
theorem dX9_property_122 : decode cX9_property 122 = .ok (.aload_n 0, 1) := by decide +kernel
theorem dX9_property_123 : decode cX9_property 123 = .ok (.getfield 17, 3) := by decide +kernel
theorem dX9_property_126 : decode cX9_property 126 = .ok (.bipush 10, 2) := by decide +kernel
theorem dX9_property_128 : decode cX9_property 128 = .ok (.iaload, 1) := by decide +kernel
theorem dX9_property_129 : decode cX9_property 129 = .ok (.ireturn, 1) := by decide +kernel
theorem dX9_property_130 : decode cX9_property 130 = .ok (.iload_n 2, 1) := by decide +kernel
theorem dX9_property_131 : decode cX9_property 131 = .ok (.ireturn, 1) := by decide +kernel
theorem dX9_property_132 : decode cX9_property 132 = .ok (.aload_n 0, 1) := by decide +kernel
theorem dX9_property_133 : decode cX9_property 133 = .ok (.invokevirtual 341, 3) := by decide +kernel
theorem dX9_property_136 : decode cX9_property 136 = .ok (.ireturn, 1) := by decide +kernel
theorem dX9_property_137 : decode cX9_property 137 = .ok (.aload_n 0, 1) := by decide +kernel
theorem dX9_property_138 : decode cX9_property 138 = .ok (.getfield 17, 3) := by decide +kernel
theorem dX9_property_141 : decode cX9_property 141 = .ok (.bipush 8, 2) := by decide +kernel
theorem dX9_property_143 : decode cX9_property 143 = .ok (.iaload, 1) := by decide +kernel
theorem dX9_property_144 : decode cX9_property 144 = .ok (.ireturn, 1) := by decide +kernel
theorem dX9_property_145 : decode cX9_property 145 = .ok (.aload_n 0, 1) := by decide +kernel
theorem dX9_property_146 : decode cX9_property 146 = .ok (.getfield 17, 3) := by decide +kernel
theorem dX9_property_149 : decode cX9_property 149 = .ok (.iconst 5, 1) := by decide +kernel
theorem dX9_property_150 : decode cX9_property 150 = .ok (.iaload, 1) := by decide +kernel
theorem dX9_property_151 : decode cX9_property 151 = .ok (.ireturn, 1) := by decide +kernel
theorem dX9_property_152 : decode cX9_property 152 = .ok (.aload_n 0, 1) := by decide +kernel
theorem dX9_property_153 : decode cX9_property 153 = .ok (.getfield 17, 3) := by decide +kernel
theorem dX9_property_156 : decode cX9_property 156 = .ok (.iconst 3, 1) := by decide +kernel
theorem dX9_property_157 : decode cX9_property 157 = .ok (.iaload, 1) := by decide +kernel
theorem dX9_property_158 : decode cX9_property 158 = .ok (.ireturn, 1) := by decide +kernel
theorem dX9_property_159 : decode cX9_property 159 = .ok (.aload_n 0, 1) := by decide +kernel
theorem dX9_property_160 : decode cX9_property 160 = .ok (.getfield 17, 3) := by decide +kernel
theorem dX9_property_163 : decode cX9_property 163 = .ok (.iconst 4, 1) := by decide +kernel
theorem dX9_property_164 : decode cX9_property 164 = .ok (.iaload, 1) := by decide +kernel
theorem dX9_property_165 : decode cX9_property 165 = .ok (.ireturn, 1) := by decide +kernel
theorem dX9_property_166 : decode cX9_property 166 = .ok (.aload_n 0, 1) := by decide +kernel
theorem dX9_property_167 : decode cX9_property 167 = .ok (.getfield 17, 3) := by decide +kernel
theorem dX9_property_170 : decode cX9_property 170 = .ok (.bipush 6, 2) := by decide +kernel
theorem dX9_property_172 : decode cX9_property 172 = .ok (.iaload, 1) := by decide +kernel
theorem dX9_property_173 : decode cX9_property 173 = .ok (.ireturn, 1) := by decide +kernel
theorem dX9_property_174 : decode cX9_property 174 = .ok (.aload_n 0, 1) := by decide +kernel
theorem dX9_property_175 : decode cX9_property 175 = .ok (.getfield 17, 3) := by decide +kernel
theorem dX9_property_178 : decode cX9_property 178 = .ok (.bipush 7, 2) := by decide +kernel
theorem dX9_property_180 : decode cX9_property 180 = .ok (.iaload, 1) := by decide +kernel
theorem dX9_property_181 : decode cX9_property 181 = .ok (.ireturn, 1) := by decide +kernel
theorem dX9_part_0 : decode cX9_part 0 = .ok (.aload_n 0, 1) := by decide +kernel
theorem dX9_part_1 : decode cX9_part 1 = .ok (.aload_n 0, 1) := by decide +kernel
theorem dX9_part_2 : decode cX9_part 2 = .ok (.iload_n 1, 1) := by decide +kernel
theorem dX9_part_3 : decode cX9_part 3 = .ok (.invokevirtual 344, 3) := by decide +kernel
theorem dX9_part_6 : decode cX9_part 6 = .ok (.iload_n 2, 1) := by decide +kernel
theorem dX9_part_7 : decode cX9_part 7 = .ok (.i2l, 1) := by decide +kernel
theorem dX9_part_8 : decode cX9_part 8 = .ok (.lconst 0, 1) := by decide +kernel
theorem dX9_part_9 : decode cX9_part 9 = .ok (.ldc2_w 347, 3) := by decide +kernel
theorem dX9_part_12 : decode cX9_part 12 = .ok (.invokestatic 75, 3) := by decide +kernel
theorem dX9_part_15 : decode cX9_part 15 = .ok (.invokevirtual 349, 3) := by decide +kernel
theorem dX9_part_18 : decode cX9_part 18 = .ok (.ifCond .ne 5, 3) := by decide +kernel
theorem dX9_part_21 : decode cX9_part 21 = .ok (.iconst 0, 1) := by decide +kernel
theorem dX9_part_22 : decode cX9_part 22 = .ok (.ireturn, 1) := by decide +kernel
theorem dX9_part_23 : decode cX9_part 23 = .ok (.aload_n 0, 1) := by decide +kernel
theorem dX9_part_24 : decode cX9_part 24 = .ok (.iload_n 1, 1) := by decide +kernel
theorem dX9_part_25 : decode cX9_part 25 = .ok (.invokevirtual 90, 3) := by decide +kernel
theorem dX9_part_28 : decode cX9_part 28 = .ok (.istore_n 3, 1) := by decide +kernel
theorem dX9_part_29 : decode cX9_part 29 = .ok (.aload_n 0, 1) := by decide +kernel
theorem dX9_part_30 : decode cX9_part 30 = .ok (.iload_n 1, 1) := by decide +kernel
theorem dX9_part_31 : decode cX9_part 31 = .ok (.invokevirtual 86, 3) := by decide +kernel
theorem dX9_part_34 : decode cX9_part 34 = .ok (.istore 4, 2) := by decide +kernel
theorem dX9_part_36 : decode cX9_part 36 = .ok (.iconst 0, 1) := by decide +kernel
theorem dX9_part_37 : decode cX9_part 37 = .ok (.iload 4, 2) := by decide +kernel
theorem dX9_part_39 : decode cX9_part 39 = .ok (.aload_n 0, 1) := by decide +kernel
theorem dX9_part_40 : decode cX9_part 40 = .ok (.invokevirtual 179, 3) := by decide +kernel
theorem dX9_part_43 : decode cX9_part 43 = .ok (.iload_n 3, 1) := by decide +kernel
theorem dX9_part_44 : decode cX9_part 44 = .ok (.isub, 1) := by decide +kernel
theorem dX9_part_45 : decode cX9_part 45 = .ok (.invokestatic 231, 3) := by decide +kernel
theorem dX9_part_48 : decode cX9_part 48 = .ok (.invokestatic 160, 3) := by decide +kernel
theorem dX9_part_51 : decode cX9_part 51 = .ok (.istore 5, 2) := by decide +kernel
theorem dX9_part_53 : decode cX9_part 53 = .ok (.iload_n 2, 1) := by decide +kernel
theorem dX9_part_54 : decode cX9_part 54 = .ok (.tableswitch 64 0 4 #[34, 40, 42, 45, 48], 34) := by decide +kernel
theorem dX9_part_88 : decode cX9_part 88 = .ok (.aload_n 0, 1) := by decide +kernel
theorem dX9_part_89 : decode cX9_part 89 = .ok (.iload_n 1, 1) := by decide +kernel
theorem dX9_part_90 : decode cX9_part 90 = .ok (.invokevirtual 123, 3) := by decide +kernel
theorem dX9_part_93 : decode cX9_part 93 = .ok (.ireturn, 1) := by decide +kernel
theorem dX9_part_94 : decode cX9_part 94 = .ok (.iload_n 3, 1) := by decide +kernel
theorem dX9_part_95 : decode cX9_part 95 = .ok (.ireturn, 1) := by decide +kernel
theorem dX9_part_96 : decode cX9_part 96 = .ok (.iload 4, 2) := by decide +kernel
theorem dX9_part_98 : decode cX9_part 98 = .ok (.ireturn, 1) := by decide +kernel
theorem dX9_part_99 : decode cX9_part 99 = .ok (.iload 5, 2) := by decide +kernel
theorem dX9_part_101 : decode cX9_part 101 = .ok (.ireturn, 1) := by decide +kernel
theorem dX9_part_102 : decode cX9_part 102 = .ok (.iload 5, 2) := by decide +kernel
theorem dX9_part_104 : decode cX9_part 104 = .ok (.ifCond .ne 7, 3) := by decide +kernel
theorem dX9_part_107 : decode cX9_part 107 = .ok (.iconst (-1), 1) := by decide +kernel
theorem dX9_part_108 : decode cX9_part 108 = .ok (.goto 9, 3) := by decide +kernel
theorem dX9_part_111 : decode cX9_part 111 = .ok (.aload_n 0, 1) := by decide +kernel
theorem dX9_part_112 : decode cX9_part 112 = .ok (.getfield 27, 3) := by decide +kernel
theorem dX9_part_115 : decode cX9_part 115 = .ok (.iload_n 3, 1) := by decide +kernel
theorem dX9_part_116 : decode cX9_part 116 = .ok (.iaload, 1) := by decide +kernel
theorem dX9_part_117 : decode cX9_part 117 = .ok (.ireturn, 1) := by decide +kernel
theorem dX9_part_118 : decode cX9_part 118 = .ok (.iload 5, 2) := by decide +kernel
theorem dX9_part_120 : decode cX9_part 120 = .ok (.ifCond .ne 7, 3) := by decide +kernel
theorem dX9_part_123 : decode cX9_part 123 = .ok (.iconst (-1), 1) := by decide +kernel
theorem dX9_part_124 : decode cX9_part 124 = .ok (.goto 14, 3) := by decide +kernel
theorem dX9_part_127 : decode cX9_part 127 = .ok (.aload_n 0, 1) := by decide +kernel
theorem dX9_part_128 : decode cX9_part 128 = .ok (.getfield 27, 3) := by decide +kernel
theorem dX9_part_131 : decode cX9_part 131 = .ok (.iload_n 3, 1) := by decide +kernel
theorem dX9_part_132 : decode cX9_part 132 = .ok (.iload 5, 2) := by decide +kernel
theorem dX9_part_134 : decode cX9_part 134 = .ok (.iadd, 1) := by decide +kernel
theorem dX9_part_135 : decode cX9_part 135 = .ok (.iconst 1, 1) := by decide +kernel
theorem dX9_part_136 : decode cX9_part 136 = .ok (.isub, 1) := by decide +kernel
theorem dX9_part_137 : decode cX9_part 137 = .ok (.iaload, 1) := by decide +kernel
theorem dX9_part_138 : decode cX9_part 138 = .ok (.ireturn, 1) := by decide +kernel
theorem dX9_carvedOf_0 : decode cX9_carvedOf 0 = .ok (.iconst 0, 1) := by decide +kernel
theorem dX9_carvedOf_1 : decode cX9_carvedOf 1 = .ok (.aload_n 0, 1) := by decide +kernel
theorem dX9_carvedOf_2 : decode cX9_carvedOf 2 = .ok (.iload_n 1, 1) := by decide +kernel
theorem dX9_carvedOf_3 : decode cX9_carvedOf 3 = .ok (.invokevirtual 106, 3) := by decide +kernel
theorem dX9_carvedOf_6 : decode cX9_carvedOf 6 = .ok (.aload_n 0, 1) := by decide +kernel
theorem dX9_carvedOf_7 : decode cX9_carvedOf 7 = .ok (.getfield 17, 3) := by decide +kernel
theorem dX9_carvedOf_10 : decode cX9_carvedOf 10 = .ok (.bipush 8, 2) := by decide +kernel
theorem dX9_carvedOf_12 : decode cX9_carvedOf 12 = .ok (.iaload, 1) := by decide +kernel
theorem dX9_carvedOf_13 : decode cX9_carvedOf 13 = .ok (.aload_n 0, 1) := by decide +kernel
theorem dX9_carvedOf_14 : decode cX9_carvedOf 14 = .ok (.iload_n 1, 1) := by decide +kernel
theorem dX9_carvedOf_15 : decode cX9_carvedOf 15 = .ok (.invokevirtual 145, 3) := by decide +kernel
theorem dX9_carvedOf_18 : decode cX9_carvedOf 18 = .ok (.isub, 1) := by decide +kernel
theorem dX9_carvedOf_19 : decode cX9_carvedOf 19 = .ok (.invokestatic 231, 3) := by decide +kernel
theorem dX9_carvedOf_22 : decode cX9_carvedOf 22 = .ok (.invokestatic 160, 3) := by decide +kernel
theorem dX9_carvedOf_25 : decode cX9_carvedOf 25 = .ok (.ireturn, 1) := by decide +kernel
theorem dX9_word_0 : decode cX9_word 0 = .ok (.aload_n 0, 1) := by decide +kernel
theorem dX9_word_1 : decode cX9_word 1 = .ok (.aload_n 0, 1) := by decide +kernel
theorem dX9_word_2 : decode cX9_word 2 = .ok (.iload_n 1, 1) := by decide +kernel
theorem dX9_word_3 : decode cX9_word 3 = .ok (.invokevirtual 353, 3) := by decide +kernel
theorem dX9_word_6 : decode cX9_word 6 = .ok (.iload_n 2, 1) := by decide +kernel
theorem dX9_word_7 : decode cX9_word 7 = .ok (.i2l, 1) := by decide +kernel
theorem dX9_word_8 : decode cX9_word 8 = .ok (.lconst 0, 1) := by decide +kernel
theorem dX9_word_9 : decode cX9_word 9 = .ok (.ldc2_w 347, 3) := by decide +kernel
theorem dX9_word_12 : decode cX9_word 12 = .ok (.invokestatic 75, 3) := by decide +kernel
theorem dX9_word_15 : decode cX9_word 15 = .ok (.invokevirtual 349, 3) := by decide +kernel
theorem dX9_word_18 : decode cX9_word 18 = .ok (.ifCond .ne 5, 3) := by decide +kernel
theorem dX9_word_21 : decode cX9_word 21 = .ok (.iconst 0, 1) := by decide +kernel
theorem dX9_word_22 : decode cX9_word 22 = .ok (.ireturn, 1) := by decide +kernel
theorem dX9_word_23 : decode cX9_word 23 = .ok (.iload_n 1, 1) := by decide +kernel
theorem dX9_word_24 : decode cX9_word 24 = .ok (.aload_n 0, 1) := by decide +kernel
theorem dX9_word_25 : decode cX9_word 25 = .ok (.invokevirtual 179, 3) := by decide +kernel
theorem dX9_word_28 : decode cX9_word 28 = .ok (.if_icmp .ge 7, 3) := by decide +kernel
theorem dX9_word_31 : decode cX9_word 31 = .ok (.iconst 1, 1) := by decide +kernel
theorem dX9_word_32 : decode cX9_word 32 = .ok (.goto 4, 3) := by decide +kernel
theorem dX9_word_35 : decode cX9_word 35 = .ok (.iconst 0, 1) := by decide +kernel
theorem dX9_word_36 : decode cX9_word 36 = .ok (.istore_n 3, 1) := by decide +kernel
theorem dX9_word_37 : decode cX9_word 37 = .ok (.iload_n 2, 1) := by decide +kernel
theorem dX9_word_38 : decode cX9_word 38 = .ok (.tableswitch 90 0 4 #[34, 40, 46, 61, 76], 34) := by decide +kernel
theorem dX9_word_72 : decode cX9_word 72 = .ok (.aload_n 0, 1) := by decide +kernel
theorem dX9_word_73 : decode cX9_word 73 = .ok (.iload_n 1, 1) := by decide +kernel
theorem dX9_word_74 : decode cX9_word 74 = .ok (.invokevirtual 356, 3) := by decide +kernel
theorem dX9_word_77 : decode cX9_word 77 = .ok (.ireturn, 1) := by decide +kernel
theorem dX9_word_78 : decode cX9_word 78 = .ok (.aload_n 0, 1) := by decide +kernel
theorem dX9_word_79 : decode cX9_word 79 = .ok (.iload_n 1, 1) := by decide +kernel
theorem dX9_word_80 : decode cX9_word 80 = .ok (.invokevirtual 106, 3) := by decide +kernel
theorem dX9_word_83 : decode cX9_word 83 = .ok (.ireturn, 1) := by decide +kernel
theorem dX9_word_84 : decode cX9_word 84 = .ok (.iload_n 3, 1) := by decide +kernel
theorem dX9_word_85 : decode cX9_word 85 = .ok (.ifCond .eq 12, 3) := by decide +kernel
theorem dX9_word_88 : decode cX9_word 88 = .ok (.aload_n 0, 1) := by decide +kernel
theorem dX9_word_89 : decode cX9_word 89 = .ok (.getfield 27, 3) := by decide +kernel
theorem dX9_word_92 : decode cX9_word 92 = .ok (.iload_n 1, 1) := by decide +kernel
theorem dX9_word_93 : decode cX9_word 93 = .ok (.iaload, 1) := by decide +kernel
theorem dX9_word_94 : decode cX9_word 94 = .ok (.goto 4, 3) := by decide +kernel
theorem dX9_word_97 : decode cX9_word 97 = .ok (.iconst (-1), 1) := by decide +kernel
theorem dX9_word_98 : decode cX9_word 98 = .ok (.ireturn, 1) := by decide +kernel
theorem dX9_word_99 : decode cX9_word 99 = .ok (.iload_n 3, 1) := by decide +kernel
theorem dX9_word_100 : decode cX9_word 100 = .ok (.ifCond .eq 12, 3) := by decide +kernel
theorem dX9_word_103 : decode cX9_word 103 = .ok (.aload_n 0, 1) := by decide +kernel
theorem dX9_word_104 : decode cX9_word 104 = .ok (.getfield 30, 3) := by decide +kernel
theorem dX9_word_107 : decode cX9_word 107 = .ok (.iload_n 1, 1) := by decide +kernel
theorem dX9_word_108 : decode cX9_word 108 = .ok (.iaload, 1) := by decide +kernel
theorem dX9_word_109 : decode cX9_word 109 = .ok (.goto 4, 3) := by decide +kernel
theorem dX9_word_112 : decode cX9_word 112 = .ok (.iconst (-1), 1) := by decide +kernel
theorem dX9_word_113 : decode cX9_word 113 = .ok (.ireturn, 1) := by decide +kernel
theorem dX9_word_114 : decode cX9_word 114 = .ok (.iload_n 3, 1) := by decide +kernel
theorem dX9_word_115 : decode cX9_word 115 = .ok (.ifCond .eq 11, 3) := by decide +kernel
theorem dX9_word_118 : decode cX9_word 118 = .ok (.aload_n 0, 1) := by decide +kernel
theorem dX9_word_119 : decode cX9_word 119 = .ok (.iload_n 1, 1) := by decide +kernel
theorem dX9_word_120 : decode cX9_word 120 = .ok (.invokevirtual 359, 3) := by decide +kernel
theorem dX9_word_123 : decode cX9_word 123 = .ok (.goto 4, 3) := by decide +kernel
theorem dX9_word_126 : decode cX9_word 126 = .ok (.iconst 0, 1) := by decide +kernel
theorem dX9_word_127 : decode cX9_word 127 = .ok (.ireturn, 1) := by decide +kernel
theorem dX9_word_128 : decode cX9_word 128 = .ok (.iload_n 3, 1) := by decide +kernel
theorem dX9_word_129 : decode cX9_word 129 = .ok (.ifCond .eq 11, 3) := by decide +kernel
theorem dX9_word_132 : decode cX9_word 132 = .ok (.aload_n 0, 1) := by decide +kernel
theorem dX9_word_133 : decode cX9_word 133 = .ok (.iload_n 1, 1) := by decide +kernel
theorem dX9_word_134 : decode cX9_word 134 = .ok (.invokevirtual 362, 3) := by decide +kernel
theorem dX9_word_137 : decode cX9_word 137 = .ok (.goto 4, 3) := by decide +kernel
theorem dX9_word_140 : decode cX9_word 140 = .ok (.iconst 0, 1) := by decide +kernel
theorem dX9_word_141 : decode cX9_word 141 = .ok (.ireturn, 1) := by decide +kernel
theorem dX9_letter_0 : decode cX9_letter 0 = .ok (.aload_n 0, 1) := by decide +kernel
theorem dX9_letter_1 : decode cX9_letter 1 = .ok (.iload_n 1, 1) := by decide +kernel
theorem dX9_letter_2 : decode cX9_letter 2 = .ok (.invokevirtual 353, 3) := by decide +kernel
theorem dX9_letter_5 : decode cX9_letter 5 = .ok (.istore_n 3, 1) := by decide +kernel
theorem dX9_letter_6 : decode cX9_letter 6 = .ok (.aload_n 0, 1) := by decide +kernel
theorem dX9_letter_7 : decode cX9_letter 7 = .ok (.iload_n 3, 1) := by decide +kernel
theorem dX9_letter_8 : decode cX9_letter 8 = .ok (.ifCond .eq 24, 3) := by decide +kernel
theorem dX9_letter_11 : decode cX9_letter 11 = .ok (.iload_n 2, 1) := by decide +kernel
theorem dX9_letter_12 : decode cX9_letter 12 = .ok (.i2l, 1) := by decide +kernel
theorem dX9_letter_13 : decode cX9_letter 13 = .ok (.lconst 0, 1) := by decide +kernel
theorem dX9_letter_14 : decode cX9_letter 14 = .ok (.aload_n 0, 1) := by decide +kernel
theorem dX9_letter_15 : decode cX9_letter 15 = .ok (.iload_n 1, 1) := by decide +kernel
theorem dX9_letter_16 : decode cX9_letter 16 = .ok (.invokevirtual 106, 3) := by decide +kernel
theorem dX9_letter_19 : decode cX9_letter 19 = .ok (.iconst 1, 1) := by decide +kernel
theorem dX9_letter_20 : decode cX9_letter 20 = .ok (.isub, 1) := by decide +kernel
theorem dX9_letter_21 : decode cX9_letter 21 = .ok (.i2l, 1) := by decide +kernel
theorem dX9_letter_22 : decode cX9_letter 22 = .ok (.invokestatic 75, 3) := by decide +kernel
theorem dX9_letter_25 : decode cX9_letter 25 = .ok (.ifCond .eq 7, 3) := by decide +kernel
theorem dX9_letter_28 : decode cX9_letter 28 = .ok (.iconst 1, 1) := by decide +kernel
theorem dX9_letter_29 : decode cX9_letter 29 = .ok (.goto 4, 3) := by decide +kernel
theorem dX9_letter_32 : decode cX9_letter 32 = .ok (.iconst 0, 1) := by decide +kernel
theorem dX9_letter_33 : decode cX9_letter 33 = .ok (.invokevirtual 191, 3) := by decide +kernel
theorem dX9_letter_36 : decode cX9_letter 36 = .ok (.ifCond .eq 12, 3) := by decide +kernel
theorem dX9_letter_39 : decode cX9_letter 39 = .ok (.aload_n 0, 1) := by decide +kernel
theorem dX9_letter_40 : decode cX9_letter 40 = .ok (.iload_n 1, 1) := by decide +kernel
theorem dX9_letter_41 : decode cX9_letter 41 = .ok (.iload_n 2, 1) := by decide +kernel
theorem dX9_letter_42 : decode cX9_letter 42 = .ok (.invokevirtual 132, 3) := by decide +kernel
theorem dX9_letter_45 : decode cX9_letter 45 = .ok (.goto 4, 3) := by decide +kernel
theorem dX9_letter_48 : decode cX9_letter 48 = .ok (.iconst 0, 1) := by decide +kernel
theorem dX9_letter_49 : decode cX9_letter 49 = .ok (.ireturn, 1) := by decide +kernel
theorem dX9_cell_0 : decode cX9_cell 0 = .ok (.aload_n 0, 1) := by decide +kernel
theorem dX9_cell_1 : decode cX9_cell 1 = .ok (.aload_n 0, 1) := by decide +kernel
theorem dX9_cell_2 : decode cX9_cell 2 = .ok (.iload_n 1, 1) := by decide +kernel
theorem dX9_cell_3 : decode cX9_cell 3 = .ok (.iload_n 2, 1) := by decide +kernel
theorem dX9_cell_4 : decode cX9_cell 4 = .ok (.invokevirtual 82, 3) := by decide +kernel
theorem dX9_cell_7 : decode cX9_cell 7 = .ok (.invokevirtual 191, 3) := by decide +kernel
theorem dX9_cell_10 : decode cX9_cell 10 = .ok (.ifCond .ne 5, 3) := by decide +kernel
theorem dX9_cell_13 : decode cX9_cell 13 = .ok (.iconst 0, 1) := by decide +kernel
theorem dX9_cell_14 : decode cX9_cell 14 = .ok (.ireturn, 1) := by decide +kernel
theorem dX9_cell_15 : decode cX9_cell 15 = .ok (.aload_n 0, 1) := by decide +kernel
theorem dX9_cell_16 : decode cX9_cell 16 = .ok (.invokevirtual 179, 3) := by decide +kernel
theorem dX9_cell_19 : decode cX9_cell 19 = .ok (.istore_n 3, 1) := by decide +kernel
theorem dX9_cell_20 : decode cX9_cell 20 = .ok (.aload_n 0, 1) := by decide +kernel
theorem dX9_cell_21 : decode cX9_cell 21 = .ok (.iload_n 1, 1) := by decide +kernel
theorem dX9_cell_22 : decode cX9_cell 22 = .ok (.iload_n 2, 1) := by decide +kernel
theorem dX9_cell_23 : decode cX9_cell 23 = .ok (.invokevirtual 365, 3) := by decide +kernel
theorem dX9_cell_26 : decode cX9_cell 26 = .ok (.istore 4, 2) := by decide +kernel
theorem dX9_cell_28 : decode cX9_cell 28 = .ok (.aload_n 0, 1) := by decide +kernel
theorem dX9_cell_29 : decode cX9_cell 29 = .ok (.iload_n 1, 1) := by decide +kernel
theorem dX9_cell_30 : decode cX9_cell 30 = .ok (.iload_n 2, 1) := by decide +kernel
theorem dX9_cell_31 : decode cX9_cell 31 = .ok (.invokevirtual 93, 3) := by decide +kernel
theorem dX9_cell_34 : decode cX9_cell 34 = .ok (.ifCond .eq 7, 3) := by decide +kernel
theorem dX9_cell_37 : decode cX9_cell 37 = .ok (.iconst (-1), 1) := by decide +kernel
theorem dX9_cell_38 : decode cX9_cell 38 = .ok (.goto 28, 3) := by decide +kernel
theorem dX9_cell_41 : decode cX9_cell 41 = .ok (.iload 4, 2) := by decide +kernel
theorem dX9_cell_43 : decode cX9_cell 43 = .ok (.iconst (-1), 1) := by decide +kernel
theorem dX9_cell_44 : decode cX9_cell 44 = .ok (.if_icmp .ne 7, 3) := by decide +kernel
theorem dX9_cell_47 : decode cX9_cell 47 = .ok (.iconst 0, 1) := by decide +kernel
theorem dX9_cell_48 : decode cX9_cell 48 = .ok (.goto 18, 3) := by decide +kernel
theorem dX9_cell_51 : decode cX9_cell 51 = .ok (.aload_n 0, 1) := by decide +kernel
theorem dX9_cell_52 : decode cX9_cell 52 = .ok (.iload 4, 2) := by decide +kernel
theorem dX9_cell_54 : decode cX9_cell 54 = .ok (.iload_n 1, 1) := by decide +kernel
theorem dX9_cell_55 : decode cX9_cell 55 = .ok (.aload_n 0, 1) := by decide +kernel
theorem dX9_cell_56 : decode cX9_cell 56 = .ok (.getfield 30, 3) := by decide +kernel
theorem dX9_cell_59 : decode cX9_cell 59 = .ok (.iload 4, 2) := by decide +kernel
theorem dX9_cell_61 : decode cX9_cell 61 = .ok (.iaload, 1) := by decide +kernel
theorem dX9_cell_62 : decode cX9_cell 62 = .ok (.isub, 1) := by decide +kernel
theorem dX9_cell_63 : decode cX9_cell 63 = .ok (.invokevirtual 132, 3) := by decide +kernel
theorem dX9_cell_66 : decode cX9_cell 66 = .ok (.ireturn, 1) := by decide +kernel
theorem dX9_wordAt_0 : decode cX9_wordAt 0 = .ok (.aload_n 0, 1) := by decide +kernel
theorem dX9_wordAt_1 : decode cX9_wordAt 1 = .ok (.aload_n 0, 1) := by decide +kernel
theorem dX9_wordAt_2 : decode cX9_wordAt 2 = .ok (.iload_n 1, 1) := by decide +kernel
theorem dX9_wordAt_3 : decode cX9_wordAt 3 = .ok (.iload_n 2, 1) := by decide +kernel
theorem dX9_wordAt_4 : decode cX9_wordAt 4 = .ok (.invokevirtual 82, 3) := by decide +kernel
theorem dX9_wordAt_7 : decode cX9_wordAt 7 = .ok (.invokevirtual 191, 3) := by decide +kernel
theorem dX9_wordAt_10 : decode cX9_wordAt 10 = .ok (.ifCond .ne 5, 3) := by decide +kernel
theorem dX9_wordAt_13 : decode cX9_wordAt 13 = .ok (.iconst 0, 1) := by decide +kernel
theorem dX9_wordAt_14 : decode cX9_wordAt 14 = .ok (.ireturn, 1) := by decide +kernel
theorem dX9_wordAt_15 : decode cX9_wordAt 15 = .ok (.aload_n 0, 1) := by decide +kernel
theorem dX9_wordAt_16 : decode cX9_wordAt 16 = .ok (.invokevirtual 179, 3) := by decide +kernel
theorem dX9_wordAt_19 : decode cX9_wordAt 19 = .ok (.istore_n 3, 1) := by decide +kernel
theorem dX9_wordAt_20 : decode cX9_wordAt 20 = .ok (.aload_n 0, 1) := by decide +kernel
theorem dX9_wordAt_21 : decode cX9_wordAt 21 = .ok (.iload_n 1, 1) := by decide +kernel
theorem dX9_wordAt_22 : decode cX9_wordAt 22 = .ok (.iload_n 2, 1) := by decide +kernel
theorem dX9_wordAt_23 : decode cX9_wordAt 23 = .ok (.invokevirtual 365, 3) := by decide +kernel
theorem dX9_wordAt_26 : decode cX9_wordAt 26 = .ok (.ireturn, 1) := by decide +kernel
theorem dX9_isRow_0 : decode cX9_isRow 0 = .ok (.iload_n 1, 1) := by decide +kernel
theorem dX9_isRow_1 : decode cX9_isRow 1 = .ok (.i2l, 1) := by decide +kernel
theorem dX9_isRow_2 : decode cX9_isRow 2 = .ok (.lconst 0, 1) := by decide +kernel
theorem dX9_isRow_3 : decode cX9_isRow 3 = .ok (.aload_n 0, 1) := by decide +kernel
theorem dX9_isRow_4 : decode cX9_isRow 4 = .ok (.invokevirtual 79, 3) := by decide +kernel
theorem dX9_isRow_7 : decode cX9_isRow 7 = .ok (.iconst 1, 1) := by decide +kernel
theorem dX9_isRow_8 : decode cX9_isRow 8 = .ok (.isub, 1) := by decide +kernel
theorem dX9_isRow_9 : decode cX9_isRow 9 = .ok (.i2l, 1) := by decide +kernel
theorem dX9_isRow_10 : decode cX9_isRow 10 = .ok (.invokestatic 75, 3) := by decide +kernel
theorem dX9_isRow_13 : decode cX9_isRow 13 = .ok (.ireturn, 1) := by decide +kernel
theorem dX9_freeIn_0 : decode cX9_freeIn 0 = .ok (.aload_n 0, 1) := by decide +kernel
theorem dX9_freeIn_1 : decode cX9_freeIn 1 = .ok (.aload_n 0, 1) := by decide +kernel
theorem dX9_freeIn_2 : decode cX9_freeIn 2 = .ok (.iload_n 1, 1) := by decide +kernel
theorem dX9_freeIn_3 : decode cX9_freeIn 3 = .ok (.invokevirtual 368, 3) := by decide +kernel
theorem dX9_freeIn_6 : decode cX9_freeIn 6 = .ok (.invokevirtual 191, 3) := by decide +kernel
theorem dX9_freeIn_9 : decode cX9_freeIn 9 = .ok (.ifCond .ne 5, 3) := by decide +kernel
theorem dX9_freeIn_12 : decode cX9_freeIn 12 = .ok (.iconst 0, 1) := by decide +kernel
theorem dX9_freeIn_13 : decode cX9_freeIn 13 = .ok (.ireturn, 1) := by decide +kernel
theorem dX9_freeIn_14 : decode cX9_freeIn 14 = .ok (.aload_n 0, 1) := by decide +kernel
theorem dX9_freeIn_15 : decode cX9_freeIn 15 = .ok (.invokevirtual 179, 3) := by decide +kernel
theorem dX9_freeIn_18 : decode cX9_freeIn 18 = .ok (.istore_n 2, 1) := by decide +kernel
theorem dX9_freeIn_19 : decode cX9_freeIn 19 = .ok (.iconst 0, 1) := by decide +kernel
theorem dX9_freeIn_20 : decode cX9_freeIn 20 = .ok (.istore_n 3, 1) := by decide +kernel
theorem dX9_freeIn_21 : decode cX9_freeIn 21 = .ok (.iconst 0, 1) := by decide +kernel
theorem dX9_freeIn_22 : decode cX9_freeIn 22 = .ok (.istore 4, 2) := by decide +kernel
theorem dX9_freeIn_24 : decode cX9_freeIn 24 = .ok (.iload 4, 2) := by decide +kernel
theorem dX9_freeIn_26 : decode cX9_freeIn 26 = .ok (.aload_n 0, 1) := by decide +kernel
theorem dX9_freeIn_27 : decode cX9_freeIn 27 = .ok (.invokevirtual 71, 3) := by decide +kernel
theorem dX9_freeIn_30 : decode cX9_freeIn 30 = .ok (.if_icmp .ge 38, 3) := by decide +kernel
theorem dX9_freeIn_33 : decode cX9_freeIn 33 = .ok (.iload_n 3, 1) := by decide +kernel
theorem dX9_freeIn_34 : decode cX9_freeIn 34 = .ok (.aload_n 0, 1) := by decide +kernel
theorem dX9_freeIn_35 : decode cX9_freeIn 35 = .ok (.iload 4, 2) := by decide +kernel
theorem dX9_freeIn_37 : decode cX9_freeIn 37 = .ok (.iload_n 1, 1) := by decide +kernel
theorem dX9_freeIn_38 : decode cX9_freeIn 38 = .ok (.invokevirtual 93, 3) := by decide +kernel
theorem dX9_freeIn_41 : decode cX9_freeIn 41 = .ok (.ifCond .ne 18, 3) := by decide +kernel
theorem dX9_freeIn_44 : decode cX9_freeIn 44 = .ok (.aload_n 0, 1) := by decide +kernel
theorem dX9_freeIn_45 : decode cX9_freeIn 45 = .ok (.iload 4, 2) := by decide +kernel
theorem dX9_freeIn_47 : decode cX9_freeIn 47 = .ok (.iload_n 1, 1) := by decide +kernel
theorem dX9_freeIn_48 : decode cX9_freeIn 48 = .ok (.invokevirtual 365, 3) := by decide +kernel
theorem dX9_freeIn_51 : decode cX9_freeIn 51 = .ok (.iconst (-1), 1) := by decide +kernel
theorem dX9_freeIn_52 : decode cX9_freeIn 52 = .ok (.if_icmp .ne 7, 3) := by decide +kernel
theorem dX9_freeIn_55 : decode cX9_freeIn 55 = .ok (.iconst 1, 1) := by decide +kernel
theorem dX9_freeIn_56 : decode cX9_freeIn 56 = .ok (.goto 4, 3) := by decide +kernel
theorem dX9_freeIn_59 : decode cX9_freeIn 59 = .ok (.iconst 0, 1) := by decide +kernel
theorem dX9_freeIn_60 : decode cX9_freeIn 60 = .ok (.iadd, 1) := by decide +kernel
theorem dX9_freeIn_61 : decode cX9_freeIn 61 = .ok (.istore_n 3, 1) := by decide +kernel
theorem dX9_freeIn_62 : decode cX9_freeIn 62 = .ok (.iinc 4 1, 3) := by decide +kernel
theorem dX9_freeIn_65 : decode cX9_freeIn 65 = .ok (.goto (-41), 3) := by decide +kernel
theorem dX9_freeIn_68 : decode cX9_freeIn 68 = .ok (.iload_n 3, 1) := by decide +kernel
theorem dX9_freeIn_69 : decode cX9_freeIn 69 = .ok (.ireturn, 1) := by decide +kernel
theorem dX9_longestRun_0 : decode cX9_longestRun 0 = .ok (.aload_n 0, 1) := by decide +kernel
theorem dX9_longestRun_1 : decode cX9_longestRun 1 = .ok (.aload_n 0, 1) := by decide +kernel
theorem dX9_longestRun_2 : decode cX9_longestRun 2 = .ok (.iload_n 1, 1) := by decide +kernel
theorem dX9_longestRun_3 : decode cX9_longestRun 3 = .ok (.invokevirtual 368, 3) := by decide +kernel
theorem dX9_longestRun_6 : decode cX9_longestRun 6 = .ok (.invokevirtual 191, 3) := by decide +kernel
theorem dX9_longestRun_9 : decode cX9_longestRun 9 = .ok (.ifCond .ne 5, 3) := by decide +kernel
theorem dX9_longestRun_12 : decode cX9_longestRun 12 = .ok (.iconst 0, 1) := by decide +kernel
theorem dX9_longestRun_13 : decode cX9_longestRun 13 = .ok (.ireturn, 1) := by decide +kernel
theorem dX9_longestRun_14 : decode cX9_longestRun 14 = .ok (.iconst 0, 1) := by decide +kernel
theorem dX9_longestRun_15 : decode cX9_longestRun 15 = .ok (.istore_n 2, 1) := by decide +kernel
theorem dX9_longestRun_16 : decode cX9_longestRun 16 = .ok (.iconst 0, 1) := by decide +kernel
theorem dX9_longestRun_17 : decode cX9_longestRun 17 = .ok (.istore_n 3, 1) := by decide +kernel
theorem dX9_longestRun_18 : decode cX9_longestRun 18 = .ok (.iconst 0, 1) := by decide +kernel
theorem dX9_longestRun_19 : decode cX9_longestRun 19 = .ok (.istore 4, 2) := by decide +kernel
theorem dX9_longestRun_21 : decode cX9_longestRun 21 = .ok (.iload 4, 2) := by decide +kernel
theorem dX9_longestRun_23 : decode cX9_longestRun 23 = .ok (.aload_n 0, 1) := by decide +kernel
theorem dX9_longestRun_24 : decode cX9_longestRun 24 = .ok (.invokevirtual 71, 3) := by decide +kernel
theorem dX9_longestRun_27 : decode cX9_longestRun 27 = .ok (.if_icmp .ge 33, 3) := by decide +kernel
theorem dX9_longestRun_30 : decode cX9_longestRun 30 = .ok (.aload_n 0, 1) := by decide +kernel
theorem dX9_longestRun_31 : decode cX9_longestRun 31 = .ok (.iload 4, 2) := by decide +kernel
theorem dX9_longestRun_33 : decode cX9_longestRun 33 = .ok (.iload_n 1, 1) := by decide +kernel
theorem dX9_longestRun_34 : decode cX9_longestRun 34 = .ok (.invokevirtual 93, 3) := by decide +kernel
theorem dX9_longestRun_37 : decode cX9_longestRun 37 = .ok (.ifCond .eq 7, 3) := by decide +kernel
theorem dX9_longestRun_40 : decode cX9_longestRun 40 = .ok (.iconst 0, 1) := by decide +kernel
theorem dX9_longestRun_41 : decode cX9_longestRun 41 = .ok (.goto 6, 3) := by decide +kernel
theorem dX9_longestRun_44 : decode cX9_longestRun 44 = .ok (.iload_n 3, 1) := by decide +kernel
theorem dX9_longestRun_45 : decode cX9_longestRun 45 = .ok (.iconst 1, 1) := by decide +kernel
theorem dX9_longestRun_46 : decode cX9_longestRun 46 = .ok (.iadd, 1) := by decide +kernel
theorem dX9_longestRun_47 : decode cX9_longestRun 47 = .ok (.istore_n 3, 1) := by decide +kernel
theorem dX9_longestRun_48 : decode cX9_longestRun 48 = .ok (.iload_n 2, 1) := by decide +kernel
theorem dX9_longestRun_49 : decode cX9_longestRun 49 = .ok (.iload_n 3, 1) := by decide +kernel
theorem dX9_longestRun_50 : decode cX9_longestRun 50 = .ok (.invokestatic 160, 3) := by decide +kernel
theorem dX9_longestRun_53 : decode cX9_longestRun 53 = .ok (.istore_n 2, 1) := by decide +kernel
theorem dX9_longestRun_54 : decode cX9_longestRun 54 = .ok (.iinc 4 1, 3) := by decide +kernel
theorem dX9_longestRun_57 : decode cX9_longestRun 57 = .ok (.goto (-36), 3) := by decide +kernel
theorem dX9_longestRun_60 : decode cX9_longestRun 60 = .ok (.iload_n 2, 1) := by decide +kernel
theorem dX9_longestRun_61 : decode cX9_longestRun 61 = .ok (.ireturn, 1) := by decide +kernel
theorem dX9_rowsUsed_0 : decode cX9_rowsUsed 0 = .ok (.aload_n 0, 1) := by decide +kernel
theorem dX9_rowsUsed_1 : decode cX9_rowsUsed 1 = .ok (.iconst 0, 1) := by decide +kernel
theorem dX9_rowsUsed_2 : decode cX9_rowsUsed 2 = .ok (.putfield 3, 3) := by decide +kernel
theorem dX9_rowsUsed_5 : decode cX9_rowsUsed 5 = .ok (.aload_n 0, 1) := by decide +kernel
theorem dX9_rowsUsed_6 : decode cX9_rowsUsed 6 = .ok (.invokevirtual 179, 3) := by decide +kernel
theorem dX9_rowsUsed_9 : decode cX9_rowsUsed 9 = .ok (.istore_n 1, 1) := by decide +kernel
theorem dX9_rowsUsed_10 : decode cX9_rowsUsed 10 = .ok (.iconst 0, 1) := by decide +kernel
theorem dX9_rowsUsed_11 : decode cX9_rowsUsed 11 = .ok (.istore_n 2, 1) := by decide +kernel
theorem dX9_rowsUsed_12 : decode cX9_rowsUsed 12 = .ok (.iconst 0, 1) := by decide +kernel
theorem dX9_rowsUsed_13 : decode cX9_rowsUsed 13 = .ok (.istore_n 3, 1) := by decide +kernel
theorem dX9_rowsUsed_14 : decode cX9_rowsUsed 14 = .ok (.iload_n 3, 1) := by decide +kernel
theorem dX9_rowsUsed_15 : decode cX9_rowsUsed 15 = .ok (.iload_n 1, 1) := by decide +kernel
theorem dX9_rowsUsed_16 : decode cX9_rowsUsed 16 = .ok (.if_icmp .ge 38, 3) := by decide +kernel
theorem dX9_rowsUsed_19 : decode cX9_rowsUsed 19 = .ok (.iload_n 2, 1) := by decide +kernel
theorem dX9_rowsUsed_20 : decode cX9_rowsUsed 20 = .ok (.iload_n 3, 1) := by decide +kernel
theorem dX9_rowsUsed_21 : decode cX9_rowsUsed 21 = .ok (.ifCond .eq 20, 3) := by decide +kernel
theorem dX9_rowsUsed_24 : decode cX9_rowsUsed 24 = .ok (.aload_n 0, 1) := by decide +kernel
theorem dX9_rowsUsed_25 : decode cX9_rowsUsed 25 = .ok (.getfield 27, 3) := by decide +kernel
theorem dX9_rowsUsed_28 : decode cX9_rowsUsed 28 = .ok (.iload_n 3, 1) := by decide +kernel
theorem dX9_rowsUsed_29 : decode cX9_rowsUsed 29 = .ok (.iaload, 1) := by decide +kernel
theorem dX9_rowsUsed_30 : decode cX9_rowsUsed 30 = .ok (.aload_n 0, 1) := by decide +kernel
theorem dX9_rowsUsed_31 : decode cX9_rowsUsed 31 = .ok (.getfield 27, 3) := by decide +kernel
theorem dX9_rowsUsed_34 : decode cX9_rowsUsed 34 = .ok (.iload_n 3, 1) := by decide +kernel
theorem dX9_rowsUsed_35 : decode cX9_rowsUsed 35 = .ok (.iconst 1, 1) := by decide +kernel
theorem dX9_rowsUsed_36 : decode cX9_rowsUsed 36 = .ok (.isub, 1) := by decide +kernel
theorem dX9_rowsUsed_37 : decode cX9_rowsUsed 37 = .ok (.iaload, 1) := by decide +kernel
theorem dX9_rowsUsed_38 : decode cX9_rowsUsed 38 = .ok (.if_icmp .eq 7, 3) := by decide +kernel
theorem dX9_rowsUsed_41 : decode cX9_rowsUsed 41 = .ok (.iconst 1, 1) := by decide +kernel
theorem dX9_rowsUsed_42 : decode cX9_rowsUsed 42 = .ok (.goto 4, 3) := by decide +kernel
theorem dX9_rowsUsed_45 : decode cX9_rowsUsed 45 = .ok (.iconst 0, 1) := by decide +kernel
theorem dX9_rowsUsed_46 : decode cX9_rowsUsed 46 = .ok (.iadd, 1) := by decide +kernel
theorem dX9_rowsUsed_47 : decode cX9_rowsUsed 47 = .ok (.istore_n 2, 1) := by decide +kernel
theorem dX9_rowsUsed_48 : decode cX9_rowsUsed 48 = .ok (.iinc 3 1, 3) := by decide +kernel
theorem dX9_rowsUsed_51 : decode cX9_rowsUsed 51 = .ok (.goto (-37), 3) := by decide +kernel
theorem dX9_rowsUsed_54 : decode cX9_rowsUsed 54 = .ok (.iload_n 2, 1) := by decide +kernel
theorem dX9_rowsUsed_55 : decode cX9_rowsUsed 55 = .ok (.ireturn, 1) := by decide +kernel
theorem dX9_firstMissing_0 : decode cX9_firstMissing 0 = .ok (.aload_n 0, 1) := by decide +kernel
theorem dX9_firstMissing_1 : decode cX9_firstMissing 1 = .ok (.iconst 0, 1) := by decide +kernel
theorem dX9_firstMissing_2 : decode cX9_firstMissing 2 = .ok (.putfield 3, 3) := by decide +kernel
theorem dX9_firstMissing_5 : decode cX9_firstMissing 5 = .ok (.aload_n 0, 1) := by decide +kernel
theorem dX9_firstMissing_6 : decode cX9_firstMissing 6 = .ok (.invokevirtual 179, 3) := by decide +kernel
theorem dX9_firstMissing_9 : decode cX9_firstMissing 9 = .ok (.istore_n 1, 1) := by decide +kernel
theorem dX9_firstMissing_10 : decode cX9_firstMissing 10 = .ok (.iload_n 1, 1) := by decide +kernel
theorem dX9_firstMissing_11 : decode cX9_firstMissing 11 = .ok (.aload_n 0, 1) := by decide +kernel
theorem dX9_firstMissing_12 : decode cX9_firstMissing 12 = .ok (.getfield 17, 3) := by decide +kernel
theorem dX9_firstMissing_15 : decode cX9_firstMissing 15 = .ok (.bipush 10, 2) := by decide +kernel
theorem dX9_firstMissing_17 : decode cX9_firstMissing 17 = .ok (.iaload, 1) := by decide +kernel
theorem dX9_firstMissing_18 : decode cX9_firstMissing 18 = .ok (.if_icmp .ne 7, 3) := by decide +kernel
theorem dX9_firstMissing_21 : decode cX9_firstMissing 21 = .ok (.iconst (-1), 1) := by decide +kernel
theorem dX9_firstMissing_22 : decode cX9_firstMissing 22 = .ok (.goto 4, 3) := by decide +kernel
theorem dX9_firstMissing_25 : decode cX9_firstMissing 25 = .ok (.iload_n 1, 1) := by decide +kernel
theorem dX9_firstMissing_26 : decode cX9_firstMissing 26 = .ok (.ireturn, 1) := by decide +kernel
theorem dX9_strokesFrom_0 : decode cX9_strokesFrom 0 = .ok (.iconst 0, 1) := by decide +kernel
theorem dX9_strokesFrom_1 : decode cX9_strokesFrom 1 = .ok (.istore_n 2, 1) := by decide +kernel
theorem dX9_strokesFrom_2 : decode cX9_strokesFrom 2 = .ok (.iload_n 1, 1) := by decide +kernel
theorem dX9_strokesFrom_3 : decode cX9_strokesFrom 3 = .ok (.istore_n 3, 1) := by decide +kernel
theorem dX9_strokesFrom_4 : decode cX9_strokesFrom 4 = .ok (.iload_n 3, 1) := by decide +kernel
theorem dX9_strokesFrom_5 : decode cX9_strokesFrom 5 = .ok (.aload_n 0, 1) := by decide +kernel
theorem dX9_strokesFrom_6 : decode cX9_strokesFrom 6 = .ok (.invokevirtual 341, 3) := by decide +kernel
theorem dX9_strokesFrom_9 : decode cX9_strokesFrom 9 = .ok (.if_icmp .ge 17, 3) := by decide +kernel
theorem dX9_strokesFrom_12 : decode cX9_strokesFrom 12 = .ok (.iload_n 2, 1) := by decide +kernel
theorem dX9_strokesFrom_13 : decode cX9_strokesFrom 13 = .ok (.aload_n 0, 1) := by decide +kernel
theorem dX9_strokesFrom_14 : decode cX9_strokesFrom 14 = .ok (.iload_n 3, 1) := by decide +kernel
theorem dX9_strokesFrom_15 : decode cX9_strokesFrom 15 = .ok (.invokevirtual 151, 3) := by decide +kernel
theorem dX9_strokesFrom_18 : decode cX9_strokesFrom 18 = .ok (.iadd, 1) := by decide +kernel
theorem dX9_strokesFrom_19 : decode cX9_strokesFrom 19 = .ok (.istore_n 2, 1) := by decide +kernel
theorem dX9_strokesFrom_20 : decode cX9_strokesFrom 20 = .ok (.iinc 3 1, 3) := by decide +kernel
theorem dX9_strokesFrom_23 : decode cX9_strokesFrom 23 = .ok (.goto (-19), 3) := by decide +kernel
theorem dX9_strokesFrom_26 : decode cX9_strokesFrom 26 = .ok (.iload_n 2, 1) := by decide +kernel
theorem dX9_strokesFrom_27 : decode cX9_strokesFrom 27 = .ok (.ireturn, 1) := by decide +kernel
theorem dX9_strokesLeft_0 : decode cX9_strokesLeft 0 = .ok (.aload_n 0, 1) := by decide +kernel
theorem dX9_strokesLeft_1 : decode cX9_strokesLeft 1 = .ok (.iconst 0, 1) := by decide +kernel
theorem dX9_strokesLeft_2 : decode cX9_strokesLeft 2 = .ok (.putfield 3, 3) := by decide +kernel
theorem dX9_strokesLeft_5 : decode cX9_strokesLeft 5 = .ok (.aload_n 0, 1) := by decide +kernel
theorem dX9_strokesLeft_6 : decode cX9_strokesLeft 6 = .ok (.invokevirtual 179, 3) := by decide +kernel
theorem dX9_strokesLeft_9 : decode cX9_strokesLeft 9 = .ok (.istore_n 1, 1) := by decide +kernel
theorem dX9_strokesLeft_10 : decode cX9_strokesLeft 10 = .ok (.aload_n 0, 1) := by decide +kernel
theorem dX9_strokesLeft_11 : decode cX9_strokesLeft 11 = .ok (.aload_n 0, 1) := by decide +kernel
theorem dX9_strokesLeft_12 : decode cX9_strokesLeft 12 = .ok (.getfield 17, 3) := by decide +kernel
theorem dX9_strokesLeft_15 : decode cX9_strokesLeft 15 = .ok (.bipush 8, 2) := by decide +kernel
theorem dX9_strokesLeft_17 : decode cX9_strokesLeft 17 = .ok (.iaload, 1) := by decide +kernel
theorem dX9_strokesLeft_18 : decode cX9_strokesLeft 18 = .ok (.invokevirtual 371, 3) := by decide +kernel
theorem dX9_strokesLeft_21 : decode cX9_strokesLeft 21 = .ok (.ireturn, 1) := by decide +kernel
theorem dX9_endOf_0 : decode cX9_endOf 0 = .ok (.aload_n 0, 1) := by decide +kernel
theorem dX9_endOf_1 : decode cX9_endOf 1 = .ok (.getfield 17, 3) := by decide +kernel
theorem dX9_endOf_4 : decode cX9_endOf 4 = .ok (.bipush 8, 2) := by decide +kernel
theorem dX9_endOf_6 : decode cX9_endOf 6 = .ok (.iaload, 1) := by decide +kernel
theorem dX9_endOf_7 : decode cX9_endOf 7 = .ok (.iload_n 1, 1) := by decide +kernel
theorem dX9_endOf_8 : decode cX9_endOf 8 = .ok (.aload_n 0, 1) := by decide +kernel
theorem dX9_endOf_9 : decode cX9_endOf 9 = .ok (.invokevirtual 341, 3) := by decide +kernel
theorem dX9_endOf_12 : decode cX9_endOf 12 = .ok (.aload_n 0, 1) := by decide +kernel
theorem dX9_endOf_13 : decode cX9_endOf 13 = .ok (.getfield 17, 3) := by decide +kernel
theorem dX9_endOf_16 : decode cX9_endOf 16 = .ok (.bipush 8, 2) := by decide +kernel
theorem dX9_endOf_18 : decode cX9_endOf 18 = .ok (.iaload, 1) := by decide +kernel
theorem dX9_endOf_19 : decode cX9_endOf 19 = .ok (.isub, 1) := by decide +kernel
theorem dX9_endOf_20 : decode cX9_endOf 20 = .ok (.invokestatic 231, 3) := by decide +kernel
theorem dX9_endOf_23 : decode cX9_endOf 23 = .ok (.iadd, 1) := by decide +kernel
theorem dX9_endOf_24 : decode cX9_endOf 24 = .ok (.ireturn, 1) := by decide +kernel
theorem dX9_timeFor_0 : decode cX9_timeFor 0 = .ok (.aload_n 0, 1) := by decide +kernel
theorem dX9_timeFor_1 : decode cX9_timeFor 1 = .ok (.iload_n 1, 1) := by decide +kernel
theorem dX9_timeFor_2 : decode cX9_timeFor 2 = .ok (.ifCond .lt 7, 3) := by decide +kernel
theorem dX9_timeFor_5 : decode cX9_timeFor 5 = .ok (.iconst 1, 1) := by decide +kernel
theorem dX9_timeFor_6 : decode cX9_timeFor 6 = .ok (.goto 4, 3) := by decide +kernel
theorem dX9_timeFor_9 : decode cX9_timeFor 9 = .ok (.iconst 0, 1) := by decide +kernel
theorem dX9_timeFor_10 : decode cX9_timeFor 10 = .ok (.invokevirtual 191, 3) := by decide +kernel
theorem dX9_timeFor_13 : decode cX9_timeFor 13 = .ok (.ifCond .ne 5, 3) := by decide +kernel
theorem dX9_timeFor_16 : decode cX9_timeFor 16 = .ok (.iconst 0, 1) := by decide +kernel
theorem dX9_timeFor_17 : decode cX9_timeFor 17 = .ok (.ireturn, 1) := by decide +kernel
theorem dX9_timeFor_18 : decode cX9_timeFor 18 = .ok (.aload_n 0, 1) := by decide +kernel
theorem dX9_timeFor_19 : decode cX9_timeFor 19 = .ok (.invokevirtual 179, 3) := by decide +kernel
theorem dX9_timeFor_22 : decode cX9_timeFor 22 = .ok (.istore_n 2, 1) := by decide +kernel
theorem dX9_timeFor_23 : decode cX9_timeFor 23 = .ok (.aload_n 0, 1) := by decide +kernel
theorem dX9_timeFor_24 : decode cX9_timeFor 24 = .ok (.aload_n 0, 1) := by decide +kernel
theorem dX9_timeFor_25 : decode cX9_timeFor 25 = .ok (.getfield 17, 3) := by decide +kernel
theorem dX9_timeFor_28 : decode cX9_timeFor 28 = .ok (.bipush 8, 2) := by decide +kernel
theorem dX9_timeFor_30 : decode cX9_timeFor 30 = .ok (.iaload, 1) := by decide +kernel
theorem dX9_timeFor_31 : decode cX9_timeFor 31 = .ok (.aload_n 0, 1) := by decide +kernel
theorem dX9_timeFor_32 : decode cX9_timeFor 32 = .ok (.iload_n 1, 1) := by decide +kernel
theorem dX9_timeFor_33 : decode cX9_timeFor 33 = .ok (.invokevirtual 374, 3) := by decide +kernel
theorem dX9_timeFor_36 : decode cX9_timeFor 36 = .ok (.invokevirtual 377, 3) := by decide +kernel
theorem dX9_timeFor_39 : decode cX9_timeFor 39 = .ok (.ireturn, 1) := by decide +kernel
theorem dX9_lettersIn_0 : decode cX9_lettersIn 0 = .ok (.aload_n 0, 1) := by decide +kernel
theorem dX9_lettersIn_1 : decode cX9_lettersIn 1 = .ok (.iload_n 1, 1) := by decide +kernel
theorem dX9_lettersIn_2 : decode cX9_lettersIn 2 = .ok (.ifCond .lt 7, 3) := by decide +kernel
theorem dX9_lettersIn_5 : decode cX9_lettersIn 5 = .ok (.iconst 1, 1) := by decide +kernel
theorem dX9_lettersIn_6 : decode cX9_lettersIn 6 = .ok (.goto 4, 3) := by decide +kernel
theorem dX9_lettersIn_9 : decode cX9_lettersIn 9 = .ok (.iconst 0, 1) := by decide +kernel
theorem dX9_lettersIn_10 : decode cX9_lettersIn 10 = .ok (.invokevirtual 191, 3) := by decide +kernel
theorem dX9_lettersIn_13 : decode cX9_lettersIn 13 = .ok (.ifCond .ne 5, 3) := by decide +kernel
theorem dX9_lettersIn_16 : decode cX9_lettersIn 16 = .ok (.iconst 0, 1) := by decide +kernel
theorem dX9_lettersIn_17 : decode cX9_lettersIn 17 = .ok (.ireturn, 1) := by decide +kernel
theorem dX9_lettersIn_18 : decode cX9_lettersIn 18 = .ok (.aload_n 0, 1) := by decide +kernel
theorem dX9_lettersIn_19 : decode cX9_lettersIn 19 = .ok (.invokevirtual 179, 3) := by decide +kernel
theorem dX9_lettersIn_22 : decode cX9_lettersIn 22 = .ok (.istore_n 2, 1) := by decide +kernel
theorem dX9_lettersIn_23 : decode cX9_lettersIn 23 = .ok (.aload_n 0, 1) := by decide +kernel
theorem dX9_lettersIn_24 : decode cX9_lettersIn 24 = .ok (.aload_n 0, 1) := by decide +kernel
theorem dX9_lettersIn_25 : decode cX9_lettersIn 25 = .ok (.getfield 17, 3) := by decide +kernel
theorem dX9_lettersIn_28 : decode cX9_lettersIn 28 = .ok (.iconst 5, 1) := by decide +kernel
theorem dX9_lettersIn_29 : decode cX9_lettersIn 29 = .ok (.iaload, 1) := by decide +kernel
theorem dX9_lettersIn_30 : decode cX9_lettersIn 30 = .ok (.putfield 154, 3) := by decide +kernel
theorem dX9_lettersIn_33 : decode cX9_lettersIn 33 = .ok (.aload_n 0, 1) := by decide +kernel
theorem dX9_lettersIn_34 : decode cX9_lettersIn 34 = .ok (.invokevirtual 341, 3) := by decide +kernel
theorem dX9_lettersIn_37 : decode cX9_lettersIn 37 = .ok (.istore_n 3, 1) := by decide +kernel
theorem dX9_lettersIn_38 : decode cX9_lettersIn 38 = .ok (.iload_n 1, 1) := by decide +kernel
theorem dX9_lettersIn_39 : decode cX9_lettersIn 39 = .ok (.istore 4, 2) := by decide +kernel
theorem dX9_lettersIn_41 : decode cX9_lettersIn 41 = .ok (.aload_n 0, 1) := by decide +kernel
theorem dX9_lettersIn_42 : decode cX9_lettersIn 42 = .ok (.getfield 17, 3) := by decide +kernel
theorem dX9_lettersIn_45 : decode cX9_lettersIn 45 = .ok (.bipush 8, 2) := by decide +kernel
theorem dX9_lettersIn_47 : decode cX9_lettersIn 47 = .ok (.iaload, 1) := by decide +kernel
theorem dX9_lettersIn_48 : decode cX9_lettersIn 48 = .ok (.istore 5, 2) := by decide +kernel
theorem dX9_lettersIn_50 : decode cX9_lettersIn 50 = .ok (.iload 5, 2) := by decide +kernel
theorem dX9_lettersIn_52 : decode cX9_lettersIn 52 = .ok (.iload_n 3, 1) := by decide +kernel
theorem dX9_lettersIn_53 : decode cX9_lettersIn 53 = .ok (.if_icmp .ge 42, 3) := by decide +kernel
theorem dX9_lettersIn_56 : decode cX9_lettersIn 56 = .ok (.iload 4, 2) := by decide +kernel
theorem dX9_lettersIn_58 : decode cX9_lettersIn 58 = .ok (.aload_n 0, 1) := by decide +kernel
theorem dX9_lettersIn_59 : decode cX9_lettersIn 59 = .ok (.iload 5, 2) := by decide +kernel
theorem dX9_lettersIn_61 : decode cX9_lettersIn 61 = .ok (.aload_n 0, 1) := by decide +kernel
theorem dX9_lettersIn_62 : decode cX9_lettersIn 62 = .ok (.getfield 17, 3) := by decide +kernel
theorem dX9_lettersIn_65 : decode cX9_lettersIn 65 = .ok (.iconst 3, 1) := by decide +kernel
theorem dX9_lettersIn_66 : decode cX9_lettersIn 66 = .ok (.iaload, 1) := by decide +kernel
theorem dX9_lettersIn_67 : decode cX9_lettersIn 67 = .ok (.invokevirtual 165, 3) := by decide +kernel
theorem dX9_lettersIn_70 : decode cX9_lettersIn 70 = .ok (.isub, 1) := by decide +kernel
theorem dX9_lettersIn_71 : decode cX9_lettersIn 71 = .ok (.istore 4, 2) := by decide +kernel
theorem dX9_lettersIn_73 : decode cX9_lettersIn 73 = .ok (.iload 4, 2) := by decide +kernel
theorem dX9_lettersIn_75 : decode cX9_lettersIn 75 = .ok (.ifCond .ge 14, 3) := by decide +kernel
theorem dX9_lettersIn_78 : decode cX9_lettersIn 78 = .ok (.iload 5, 2) := by decide +kernel
theorem dX9_lettersIn_80 : decode cX9_lettersIn 80 = .ok (.aload_n 0, 1) := by decide +kernel
theorem dX9_lettersIn_81 : decode cX9_lettersIn 81 = .ok (.getfield 17, 3) := by decide +kernel
theorem dX9_lettersIn_84 : decode cX9_lettersIn 84 = .ok (.bipush 8, 2) := by decide +kernel
theorem dX9_lettersIn_86 : decode cX9_lettersIn 86 = .ok (.iaload, 1) := by decide +kernel
theorem dX9_lettersIn_87 : decode cX9_lettersIn 87 = .ok (.isub, 1) := by decide +kernel
theorem dX9_lettersIn_88 : decode cX9_lettersIn 88 = .ok (.ireturn, 1) := by decide +kernel
theorem dX9_lettersIn_89 : decode cX9_lettersIn 89 = .ok (.iinc 5 1, 3) := by decide +kernel
theorem dX9_lettersIn_92 : decode cX9_lettersIn 92 = .ok (.goto (-42), 3) := by decide +kernel
theorem dX9_lettersIn_95 : decode cX9_lettersIn 95 = .ok (.iload_n 3, 1) := by decide +kernel
theorem dX9_lettersIn_96 : decode cX9_lettersIn 96 = .ok (.aload_n 0, 1) := by decide +kernel
theorem dX9_lettersIn_97 : decode cX9_lettersIn 97 = .ok (.getfield 17, 3) := by decide +kernel
theorem dX9_lettersIn_100 : decode cX9_lettersIn 100 = .ok (.bipush 8, 2) := by decide +kernel
theorem dX9_lettersIn_102 : decode cX9_lettersIn 102 = .ok (.iaload, 1) := by decide +kernel
theorem dX9_lettersIn_103 : decode cX9_lettersIn 103 = .ok (.isub, 1) := by decide +kernel
theorem dX9_lettersIn_104 : decode cX9_lettersIn 104 = .ok (.ireturn, 1) := by decide +kernel
theorem dX9_sharpenings_0 : decode cX9_sharpenings 0 = .ok (.aload_n 0, 1) := by decide +kernel
theorem dX9_sharpenings_1 : decode cX9_sharpenings 1 = .ok (.iconst 0, 1) := by decide +kernel
theorem dX9_sharpenings_2 : decode cX9_sharpenings 2 = .ok (.putfield 3, 3) := by decide +kernel
theorem dX9_sharpenings_5 : decode cX9_sharpenings 5 = .ok (.aload_n 0, 1) := by decide +kernel
theorem dX9_sharpenings_6 : decode cX9_sharpenings 6 = .ok (.invokevirtual 179, 3) := by decide +kernel
theorem dX9_sharpenings_9 : decode cX9_sharpenings 9 = .ok (.istore_n 1, 1) := by decide +kernel
theorem dX9_sharpenings_10 : decode cX9_sharpenings 10 = .ok (.aload_n 0, 1) := by decide +kernel
theorem dX9_sharpenings_11 : decode cX9_sharpenings 11 = .ok (.aload_n 0, 1) := by decide +kernel
theorem dX9_sharpenings_12 : decode cX9_sharpenings 12 = .ok (.getfield 17, 3) := by decide +kernel
theorem dX9_sharpenings_15 : decode cX9_sharpenings 15 = .ok (.bipush 8, 2) := by decide +kernel
theorem dX9_sharpenings_17 : decode cX9_sharpenings 17 = .ok (.iaload, 1) := by decide +kernel
theorem dX9_sharpenings_18 : decode cX9_sharpenings 18 = .ok (.aload_n 0, 1) := by decide +kernel
theorem dX9_sharpenings_19 : decode cX9_sharpenings 19 = .ok (.invokevirtual 341, 3) := by decide +kernel
theorem dX9_sharpenings_22 : decode cX9_sharpenings 22 = .ok (.invokevirtual 377, 3) := by decide +kernel
theorem dX9_sharpenings_25 : decode cX9_sharpenings 25 = .ok (.istore_n 2, 1) := by decide +kernel
theorem dX9_sharpenings_26 : decode cX9_sharpenings 26 = .ok (.aload_n 0, 1) := by decide +kernel
theorem dX9_sharpenings_27 : decode cX9_sharpenings 27 = .ok (.getfield 157, 3) := by decide +kernel
theorem dX9_sharpenings_30 : decode cX9_sharpenings 30 = .ok (.ireturn, 1) := by decide +kernel
theorem dX9_isSharp_0 : decode cX9_isSharp 0 = .ok (.iload_n 0, 1) := by decide +kernel
theorem dX9_isSharp_1 : decode cX9_isSharp 1 = .ok (.i2l, 1) := by decide +kernel
theorem dX9_isSharp_2 : decode cX9_isSharp 2 = .ok (.lconst 1, 1) := by decide +kernel
theorem dX9_isSharp_3 : decode cX9_isSharp 3 = .ok (.ldc2_w 380, 3) := by decide +kernel
theorem dX9_isSharp_6 : decode cX9_isSharp 6 = .ok (.invokestatic 75, 3) := by decide +kernel
theorem dX9_isSharp_9 : decode cX9_isSharp 9 = .ok (.ireturn, 1) := by decide +kernel
theorem dX9_timeWith_0 : decode cX9_timeWith 0 = .ok (.aload_n 0, 1) := by decide +kernel
theorem dX9_timeWith_1 : decode cX9_timeWith 1 = .ok (.iload_n 1, 1) := by decide +kernel
theorem dX9_timeWith_2 : decode cX9_timeWith 2 = .ok (.invokestatic 382, 3) := by decide +kernel
theorem dX9_timeWith_5 : decode cX9_timeWith 5 = .ok (.invokevirtual 191, 3) := by decide +kernel
theorem dX9_timeWith_8 : decode cX9_timeWith 8 = .ok (.ifCond .ne 5, 3) := by decide +kernel
theorem dX9_timeWith_11 : decode cX9_timeWith 11 = .ok (.iconst 0, 1) := by decide +kernel
theorem dX9_timeWith_12 : decode cX9_timeWith 12 = .ok (.ireturn, 1) := by decide +kernel
theorem dX9_timeWith_13 : decode cX9_timeWith 13 = .ok (.aload_n 0, 1) := by decide +kernel
theorem dX9_timeWith_14 : decode cX9_timeWith 14 = .ok (.invokevirtual 179, 3) := by decide +kernel
theorem dX9_timeWith_17 : decode cX9_timeWith 17 = .ok (.istore_n 2, 1) := by decide +kernel
theorem dX9_timeWith_18 : decode cX9_timeWith 18 = .ok (.aload_n 0, 1) := by decide +kernel
theorem dX9_timeWith_19 : decode cX9_timeWith 19 = .ok (.iload_n 1, 1) := by decide +kernel
theorem dX9_timeWith_20 : decode cX9_timeWith 20 = .ok (.putfield 154, 3) := by decide +kernel
theorem dX9_timeWith_23 : decode cX9_timeWith 23 = .ok (.iconst 0, 1) := by decide +kernel
theorem dX9_timeWith_24 : decode cX9_timeWith 24 = .ok (.istore_n 3, 1) := by decide +kernel
theorem dX9_timeWith_25 : decode cX9_timeWith 25 = .ok (.iconst 0, 1) := by decide +kernel
theorem dX9_timeWith_26 : decode cX9_timeWith 26 = .ok (.istore 4, 2) := by decide +kernel
theorem dX9_timeWith_28 : decode cX9_timeWith 28 = .ok (.iload 4, 2) := by decide +kernel
theorem dX9_timeWith_30 : decode cX9_timeWith 30 = .ok (.aload_n 0, 1) := by decide +kernel
theorem dX9_timeWith_31 : decode cX9_timeWith 31 = .ok (.invokevirtual 341, 3) := by decide +kernel
theorem dX9_timeWith_34 : decode cX9_timeWith 34 = .ok (.if_icmp .ge 19, 3) := by decide +kernel
theorem dX9_timeWith_37 : decode cX9_timeWith 37 = .ok (.iload_n 3, 1) := by decide +kernel
theorem dX9_timeWith_38 : decode cX9_timeWith 38 = .ok (.aload_n 0, 1) := by decide +kernel
theorem dX9_timeWith_39 : decode cX9_timeWith 39 = .ok (.iload 4, 2) := by decide +kernel
theorem dX9_timeWith_41 : decode cX9_timeWith 41 = .ok (.iload_n 1, 1) := by decide +kernel
theorem dX9_timeWith_42 : decode cX9_timeWith 42 = .ok (.invokevirtual 165, 3) := by decide +kernel
theorem dX9_timeWith_45 : decode cX9_timeWith 45 = .ok (.iadd, 1) := by decide +kernel
theorem dX9_timeWith_46 : decode cX9_timeWith 46 = .ok (.istore_n 3, 1) := by decide +kernel
theorem dX9_timeWith_47 : decode cX9_timeWith 47 = .ok (.iinc 4 1, 3) := by decide +kernel
theorem dX9_timeWith_50 : decode cX9_timeWith 50 = .ok (.goto (-22), 3) := by decide +kernel
theorem dX9_timeWith_53 : decode cX9_timeWith 53 = .ok (.iload_n 3, 1) := by decide +kernel
theorem dX9_timeWith_54 : decode cX9_timeWith 54 = .ok (.ireturn, 1) := by decide +kernel
theorem dX9_nextCell_0 : decode cX9_nextCell 0 = .ok (.aload_n 0, 1) := by decide +kernel
theorem dX9_nextCell_1 : decode cX9_nextCell 1 = .ok (.iconst 0, 1) := by decide +kernel
theorem dX9_nextCell_2 : decode cX9_nextCell 2 = .ok (.putfield 3, 3) := by decide +kernel
theorem dX9_nextCell_5 : decode cX9_nextCell 5 = .ok (.aload_n 0, 1) := by decide +kernel
