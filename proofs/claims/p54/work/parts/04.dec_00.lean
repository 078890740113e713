theorem dX0_init_0 : decode cX0_init 0 = .ok (.aload_n 0, 1) := by decide +kernel
theorem dX0_init_1 : decode cX0_init 1 = .ok (.invokespecial 1, 3) := by decide +kernel
theorem dX0_init_4 : decode cX0_init 4 = .ok (.aload_n 0, 1) := by decide +kernel
theorem dX0_init_5 : decode cX0_init 5 = .ok (.iconst 0, 1) := by decide +kernel
theorem dX0_init_6 : decode cX0_init 6 = .ok (.putfield 7, 3) := by decide +kernel
theorem dX0_init_9 : decode cX0_init 9 = .ok (.aload_n 0, 1) := by decide +kernel
theorem dX0_init_10 : decode cX0_init 10 = .ok (.new 13, 3) := by decide +kernel
theorem dX0_init_13 : decode cX0_init 13 = .ok (.dup, 1) := by decide +kernel
theorem dX0_init_14 : decode cX0_init 14 = .ok (.iload_n 1, 1) := by decide +kernel
theorem dX0_init_15 : decode cX0_init 15 = .ok (.invokespecial 15, 3) := by decide +kernel
theorem dX0_init_18 : decode cX0_init 18 = .ok (.putfield 18, 3) := by decide +kernel
theorem dX0_init_21 : decode cX0_init 21 = .ok (.return_, 1) := by decide +kernel
theorem dX0_add_0 : decode cX0_add 0 = .ok (.aload_n 0, 1) := by decide +kernel
theorem dX0_add_1 : decode cX0_add 1 = .ok (.getfield 18, 3) := by decide +kernel
theorem dX0_add_4 : decode cX0_add 4 = .ok (.aload_n 0, 1) := by decide +kernel
theorem dX0_add_5 : decode cX0_add 5 = .ok (.getfield 7, 3) := by decide +kernel
theorem dX0_add_8 : decode cX0_add 8 = .ok (.iload_n 1, 1) := by decide +kernel
theorem dX0_add_9 : decode cX0_add 9 = .ok (.sipush 255, 3) := by decide +kernel
theorem dX0_add_12 : decode cX0_add 12 = .ok (.iand, 1) := by decide +kernel
theorem dX0_add_13 : decode cX0_add 13 = .ok (.invokevirtual 22, 3) := by decide +kernel
theorem dX0_add_16 : decode cX0_add 16 = .ok (.aload_n 0, 1) := by decide +kernel
theorem dX0_add_17 : decode cX0_add 17 = .ok (.dup, 1) := by decide +kernel
theorem dX0_add_18 : decode cX0_add 18 = .ok (.getfield 7, 3) := by decide +kernel
theorem dX0_add_21 : decode cX0_add 21 = .ok (.iconst 1, 1) := by decide +kernel
theorem dX0_add_22 : decode cX0_add 22 = .ok (.iadd, 1) := by decide +kernel
theorem dX0_add_23 : decode cX0_add 23 = .ok (.putfield 7, 3) := by decide +kernel
theorem dX0_add_26 : decode cX0_add 26 = .ok (.return_, 1) := by decide +kernel
theorem dX0_addFour_0 : decode cX0_addFour 0 = .ok (.aload_n 0, 1) := by decide +kernel
theorem dX0_addFour_1 : decode cX0_addFour 1 = .ok (.iload_n 1, 1) := by decide +kernel
theorem dX0_addFour_2 : decode cX0_addFour 2 = .ok (.bipush 24, 2) := by decide +kernel
theorem dX0_addFour_4 : decode cX0_addFour 4 = .ok (.iushr, 1) := by decide +kernel
theorem dX0_addFour_5 : decode cX0_addFour 5 = .ok (.invokevirtual 26, 3) := by decide +kernel
theorem dX0_addFour_8 : decode cX0_addFour 8 = .ok (.aload_n 0, 1) := by decide +kernel
theorem dX0_addFour_9 : decode cX0_addFour 9 = .ok (.iload_n 1, 1) := by decide +kernel
theorem dX0_addFour_10 : decode cX0_addFour 10 = .ok (.bipush 16, 2) := by decide +kernel
theorem dX0_addFour_12 : decode cX0_addFour 12 = .ok (.iushr, 1) := by decide +kernel
theorem dX0_addFour_13 : decode cX0_addFour 13 = .ok (.invokevirtual 26, 3) := by decide +kernel
theorem dX0_addFour_16 : decode cX0_addFour 16 = .ok (.aload_n 0, 1) := by decide +kernel
theorem dX0_addFour_17 : decode cX0_addFour 17 = .ok (.iload_n 1, 1) := by decide +kernel
theorem dX0_addFour_18 : decode cX0_addFour 18 = .ok (.bipush 8, 2) := by decide +kernel
theorem dX0_addFour_20 : decode cX0_addFour 20 = .ok (.iushr, 1) := by decide +kernel
theorem dX0_addFour_21 : decode cX0_addFour 21 = .ok (.invokevirtual 26, 3) := by decide +kernel
theorem dX0_addFour_24 : decode cX0_addFour 24 = .ok (.aload_n 0, 1) := by decide +kernel
theorem dX0_addFour_25 : decode cX0_addFour 25 = .ok (.iload_n 1, 1) := by decide +kernel
theorem dX0_addFour_26 : decode cX0_addFour 26 = .ok (.invokevirtual 26, 3) := by decide +kernel
theorem dX0_addFour_29 : decode cX0_addFour 29 = .ok (.return_, 1) := by decide +kernel
theorem dX1_init_0 : decode cX1_init 0 = .ok (.aload_n 0, 1) := by decide +kernel
theorem dX1_init_1 : decode cX1_init 1 = .ok (.invokespecial 3, 3) := by decide +kernel
theorem dX1_init_4 : decode cX1_init 4 = .ok (.aload_n 0, 1) := by decide +kernel
theorem dX1_init_5 : decode cX1_init 5 = .ok (.bipush 100, 2) := by decide +kernel
theorem dX1_init_7 : decode cX1_init 7 = .ok (.putfield 9, 3) := by decide +kernel
theorem dX1_init_10 : decode cX1_init 10 = .ok (.aload_n 0, 1) := by decide +kernel
theorem dX1_init_11 : decode cX1_init 11 = .ok (.bipush 10, 2) := by decide +kernel
theorem dX1_init_13 : decode cX1_init 13 = .ok (.putfield 15, 3) := by decide +kernel
theorem dX1_init_16 : decode cX1_init 16 = .ok (.aload_n 0, 1) := by decide +kernel
theorem dX1_init_17 : decode cX1_init 17 = .ok (.bipush 100, 2) := by decide +kernel
theorem dX1_init_19 : decode cX1_init 19 = .ok (.putfield 18, 3) := by decide +kernel
theorem dX1_init_22 : decode cX1_init 22 = .ok (.aload_n 0, 1) := by decide +kernel
theorem dX1_init_23 : decode cX1_init 23 = .ok (.iconst 0, 1) := by decide +kernel
theorem dX1_init_24 : decode cX1_init 24 = .ok (.putfield 21, 3) := by decide +kernel
theorem dX1_init_27 : decode cX1_init 27 = .ok (.aload_n 0, 1) := by decide +kernel
theorem dX1_init_28 : decode cX1_init 28 = .ok (.iconst 0, 1) := by decide +kernel
theorem dX1_init_29 : decode cX1_init 29 = .ok (.putfield 24, 3) := by decide +kernel
theorem dX1_init_32 : decode cX1_init 32 = .ok (.return_, 1) := by decide +kernel
theorem dX1_renew_0 : decode cX1_renew 0 = .ok (.aload_n 0, 1) := by decide +kernel
theorem dX1_renew_1 : decode cX1_renew 1 = .ok (.iload_n 1, 1) := by decide +kernel
theorem dX1_renew_2 : decode cX1_renew 2 = .ok (.putfield 9, 3) := by decide +kernel
theorem dX1_renew_5 : decode cX1_renew 5 = .ok (.aload_n 0, 1) := by decide +kernel
theorem dX1_renew_6 : decode cX1_renew 6 = .ok (.iload_n 2, 1) := by decide +kernel
theorem dX1_renew_7 : decode cX1_renew 7 = .ok (.putfield 15, 3) := by decide +kernel
theorem dX1_renew_10 : decode cX1_renew 10 = .ok (.aload_n 0, 1) := by decide +kernel
theorem dX1_renew_11 : decode cX1_renew 11 = .ok (.iload_n 1, 1) := by decide +kernel
theorem dX1_renew_12 : decode cX1_renew 12 = .ok (.putfield 18, 3) := by decide +kernel
theorem dX1_renew_15 : decode cX1_renew 15 = .ok (.return_, 1) := by decide +kernel
theorem dX1_hone_0 : decode cX1_hone 0 = .ok (.aload_n 0, 1) := by decide +kernel
theorem dX1_hone_1 : decode cX1_hone 1 = .ok (.aload_n 0, 1) := by decide +kernel
theorem dX1_hone_2 : decode cX1_hone 2 = .ok (.getfield 9, 3) := by decide +kernel
theorem dX1_hone_5 : decode cX1_hone 5 = .ok (.putfield 18, 3) := by decide +kernel
theorem dX1_hone_8 : decode cX1_hone 8 = .ok (.aload_n 0, 1) := by decide +kernel
theorem dX1_hone_9 : decode cX1_hone 9 = .ok (.dup, 1) := by decide +kernel
theorem dX1_hone_10 : decode cX1_hone 10 = .ok (.getfield 21, 3) := by decide +kernel
theorem dX1_hone_13 : decode cX1_hone 13 = .ok (.aload_n 0, 1) := by decide +kernel
theorem dX1_hone_14 : decode cX1_hone 14 = .ok (.getfield 15, 3) := by decide +kernel
theorem dX1_hone_17 : decode cX1_hone 17 = .ok (.iadd, 1) := by decide +kernel
theorem dX1_hone_18 : decode cX1_hone 18 = .ok (.putfield 21, 3) := by decide +kernel
theorem dX1_hone_21 : decode cX1_hone 21 = .ok (.aload_n 0, 1) := by decide +kernel
theorem dX1_hone_22 : decode cX1_hone 22 = .ok (.dup, 1) := by decide +kernel
theorem dX1_hone_23 : decode cX1_hone 23 = .ok (.getfield 24, 3) := by decide +kernel
theorem dX1_hone_26 : decode cX1_hone 26 = .ok (.iconst 1, 1) := by decide +kernel
theorem dX1_hone_27 : decode cX1_hone 27 = .ok (.iadd, 1) := by decide +kernel
theorem dX1_hone_28 : decode cX1_hone 28 = .ok (.putfield 24, 3) := by decide +kernel
theorem dX1_hone_31 : decode cX1_hone 31 = .ok (.return_, 1) := by decide +kernel
theorem dX1_cut_0 : decode cX1_cut 0 = .ok (.aload_n 0, 1) := by decide +kernel
theorem dX1_cut_1 : decode cX1_cut 1 = .ok (.getfield 18, 3) := by decide +kernel
theorem dX1_cut_4 : decode cX1_cut 4 = .ok (.iload_n 1, 1) := by decide +kernel
theorem dX1_cut_5 : decode cX1_cut 5 = .ok (.if_icmp .ge 18, 3) := by decide +kernel
theorem dX1_cut_8 : decode cX1_cut 8 = .ok (.aload_n 0, 1) := by decide +kernel
theorem dX1_cut_9 : decode cX1_cut 9 = .ok (.getfield 18, 3) := by decide +kernel
theorem dX1_cut_12 : decode cX1_cut 12 = .ok (.aload_n 0, 1) := by decide +kernel
theorem dX1_cut_13 : decode cX1_cut 13 = .ok (.getfield 9, 3) := by decide +kernel
theorem dX1_cut_16 : decode cX1_cut 16 = .ok (.if_icmp .ge 7, 3) := by decide +kernel
theorem dX1_cut_19 : decode cX1_cut 19 = .ok (.aload_n 0, 1) := by decide +kernel
theorem dX1_cut_20 : decode cX1_cut 20 = .ok (.invokevirtual 27, 3) := by decide +kernel
theorem dX1_cut_23 : decode cX1_cut 23 = .ok (.aload_n 0, 1) := by decide +kernel
theorem dX1_cut_24 : decode cX1_cut 24 = .ok (.dup, 1) := by decide +kernel
theorem dX1_cut_25 : decode cX1_cut 25 = .ok (.getfield 21, 3) := by decide +kernel
theorem dX1_cut_28 : decode cX1_cut 28 = .ok (.iload_n 1, 1) := by decide +kernel
theorem dX1_cut_29 : decode cX1_cut 29 = .ok (.iadd, 1) := by decide +kernel
theorem dX1_cut_30 : decode cX1_cut 30 = .ok (.putfield 21, 3) := by decide +kernel
theorem dX1_cut_33 : decode cX1_cut 33 = .ok (.aload_n 0, 1) := by decide +kernel
theorem dX1_cut_34 : decode cX1_cut 34 = .ok (.iconst 0, 1) := by decide +kernel
theorem dX1_cut_35 : decode cX1_cut 35 = .ok (.aload_n 0, 1) := by decide +kernel
theorem dX1_cut_36 : decode cX1_cut 36 = .ok (.getfield 18, 3) := by decide +kernel
theorem dX1_cut_39 : decode cX1_cut 39 = .ok (.iload_n 1, 1) := by decide +kernel
theorem dX1_cut_40 : decode cX1_cut 40 = .ok (.isub, 1) := by decide +kernel
theorem dX1_cut_41 : decode cX1_cut 41 = .ok (.invokestatic 30, 3) := by decide +kernel
theorem dX1_cut_44 : decode cX1_cut 44 = .ok (.putfield 18, 3) := by decide +kernel
theorem dX1_cut_47 : decode cX1_cut 47 = .ok (.return_, 1) := by decide +kernel
theorem dX1_copy_0 : decode cX1_copy 0 = .ok (.aload_n 0, 1) := by decide +kernel
theorem dX1_copy_1 : decode cX1_copy 1 = .ok (.aload_n 1, 1) := by decide +kernel
theorem dX1_copy_2 : decode cX1_copy 2 = .ok (.getfield 9, 3) := by decide +kernel
theorem dX1_copy_5 : decode cX1_copy 5 = .ok (.putfield 9, 3) := by decide +kernel
theorem dX1_copy_8 : decode cX1_copy 8 = .ok (.aload_n 0, 1) := by decide +kernel
theorem dX1_copy_9 : decode cX1_copy 9 = .ok (.aload_n 1, 1) := by decide +kernel
theorem dX1_copy_10 : decode cX1_copy 10 = .ok (.getfield 15, 3) := by decide +kernel
theorem dX1_copy_13 : decode cX1_copy 13 = .ok (.putfield 15, 3) := by decide +kernel
theorem dX1_copy_16 : decode cX1_copy 16 = .ok (.aload_n 0, 1) := by decide +kernel
theorem dX1_copy_17 : decode cX1_copy 17 = .ok (.aload_n 1, 1) := by decide +kernel
theorem dX1_copy_18 : decode cX1_copy 18 = .ok (.getfield 18, 3) := by decide +kernel
theorem dX1_copy_21 : decode cX1_copy 21 = .ok (.putfield 18, 3) := by decide +kernel
theorem dX1_copy_24 : decode cX1_copy 24 = .ok (.aload_n 0, 1) := by decide +kernel
theorem dX1_copy_25 : decode cX1_copy 25 = .ok (.aload_n 1, 1) := by decide +kernel
theorem dX1_copy_26 : decode cX1_copy 26 = .ok (.getfield 21, 3) := by decide +kernel
theorem dX1_copy_29 : decode cX1_copy 29 = .ok (.putfield 21, 3) := by decide +kernel
theorem dX1_copy_32 : decode cX1_copy 32 = .ok (.aload_n 0, 1) := by decide +kernel
theorem dX1_copy_33 : decode cX1_copy 33 = .ok (.aload_n 1, 1) := by decide +kernel
theorem dX1_copy_34 : decode cX1_copy 34 = .ok (.getfield 24, 3) := by decide +kernel
theorem dX1_copy_37 : decode cX1_copy 37 = .ok (.putfield 24, 3) := by decide +kernel
theorem dX1_copy_40 : decode cX1_copy 40 = .ok (.return_, 1) := by decide +kernel
theorem dX2_init_0 : decode cX2_init 0 = .ok (.aload_n 0, 1) := by decide +kernel
theorem dX2_init_1 : decode cX2_init 1 = .ok (.invokespecial 3, 3) := by decide +kernel
theorem dX2_init_4 : decode cX2_init 4 = .ok (.aload_n 0, 1) := by decide +kernel
theorem dX2_init_5 : decode cX2_init 5 = .ok (.new 9, 3) := by decide +kernel
theorem dX2_init_8 : decode cX2_init 8 = .ok (.dup, 1) := by decide +kernel
theorem dX2_init_9 : decode cX2_init 9 = .ok (.bipush 60, 2) := by decide +kernel
theorem dX2_init_11 : decode cX2_init 11 = .ok (.invokespecial 11, 3) := by decide +kernel
theorem dX2_init_14 : decode cX2_init 14 = .ok (.putfield 14, 3) := by decide +kernel
theorem dX2_init_17 : decode cX2_init 17 = .ok (.aload_n 0, 1) := by decide +kernel
theorem dX2_init_18 : decode cX2_init 18 = .ok (.new 9, 3) := by decide +kernel
theorem dX2_init_21 : decode cX2_init 21 = .ok (.dup, 1) := by decide +kernel
theorem dX2_init_22 : decode cX2_init 22 = .ok (.bipush 60, 2) := by decide +kernel
theorem dX2_init_24 : decode cX2_init 24 = .ok (.invokespecial 11, 3) := by decide +kernel
theorem dX2_init_27 : decode cX2_init 27 = .ok (.putfield 20, 3) := by decide +kernel
theorem dX2_init_30 : decode cX2_init 30 = .ok (.aload_n 0, 1) := by decide +kernel
theorem dX2_init_31 : decode cX2_init 31 = .ok (.new 9, 3) := by decide +kernel
theorem dX2_init_34 : decode cX2_init 34 = .ok (.dup, 1) := by decide +kernel
theorem dX2_init_35 : decode cX2_init 35 = .ok (.sipush 288, 3) := by decide +kernel
theorem dX2_init_38 : decode cX2_init 38 = .ok (.invokespecial 11, 3) := by decide +kernel
theorem dX2_init_41 : decode cX2_init 41 = .ok (.putfield 23, 3) := by decide +kernel
theorem dX2_init_44 : decode cX2_init 44 = .ok (.aload_n 0, 1) := by decide +kernel
theorem dX2_init_45 : decode cX2_init 45 = .ok (.new 9, 3) := by decide +kernel
theorem dX2_init_48 : decode cX2_init 48 = .ok (.dup, 1) := by decide +kernel
theorem dX2_init_49 : decode cX2_init 49 = .ok (.sipush 288, 3) := by decide +kernel
theorem dX2_init_52 : decode cX2_init 52 = .ok (.invokespecial 11, 3) := by decide +kernel
theorem dX2_init_55 : decode cX2_init 55 = .ok (.putfield 26, 3) := by decide +kernel
theorem dX2_init_58 : decode cX2_init 58 = .ok (.aload_n 0, 1) := by decide +kernel
theorem dX2_init_59 : decode cX2_init 59 = .ok (.iconst 0, 1) := by decide +kernel
theorem dX2_init_60 : decode cX2_init 60 = .ok (.putfield 29, 3) := by decide +kernel
theorem dX2_init_63 : decode cX2_init 63 = .ok (.aload_n 0, 1) := by decide +kernel
theorem dX2_init_64 : decode cX2_init 64 = .ok (.iconst 0, 1) := by decide +kernel
theorem dX2_init_65 : decode cX2_init 65 = .ok (.putfield 33, 3) := by decide +kernel
theorem dX2_init_68 : decode cX2_init 68 = .ok (.aload_n 0, 1) := by decide +kernel
theorem dX2_init_69 : decode cX2_init 69 = .ok (.iconst 0, 1) := by decide +kernel
theorem dX2_init_70 : decode cX2_init 70 = .ok (.putfield 36, 3) := by decide +kernel
theorem dX2_init_73 : decode cX2_init 73 = .ok (.aload_n 0, 1) := by decide +kernel
theorem dX2_init_74 : decode cX2_init 74 = .ok (.iconst 0, 1) := by decide +kernel
theorem dX2_init_75 : decode cX2_init 75 = .ok (.putfield 39, 3) := by decide +kernel
theorem dX2_init_78 : decode cX2_init 78 = .ok (.return_, 1) := by decide +kernel
theorem dX2_lay_0 : decode cX2_lay 0 = .ok (.aload_n 0, 1) := by decide +kernel
theorem dX2_lay_1 : decode cX2_lay 1 = .ok (.iconst 0, 1) := by decide +kernel
theorem dX2_lay_2 : decode cX2_lay 2 = .ok (.putfield 29, 3) := by decide +kernel
theorem dX2_lay_5 : decode cX2_lay 5 = .ok (.aload_n 0, 1) := by decide +kernel
theorem dX2_lay_6 : decode cX2_lay 6 = .ok (.iconst 0, 1) := by decide +kernel
theorem dX2_lay_7 : decode cX2_lay 7 = .ok (.putfield 36, 3) := by decide +kernel
theorem dX2_lay_10 : decode cX2_lay 10 = .ok (.aload_n 0, 1) := by decide +kernel
theorem dX2_lay_11 : decode cX2_lay 11 = .ok (.iconst 0, 1) := by decide +kernel
theorem dX2_lay_12 : decode cX2_lay 12 = .ok (.putfield 39, 3) := by decide +kernel
theorem dX2_lay_15 : decode cX2_lay 15 = .ok (.iconst 0, 1) := by decide +kernel
theorem dX2_lay_16 : decode cX2_lay 16 = .ok (.istore_n 2, 1) := by decide +kernel
theorem dX2_lay_17 : decode cX2_lay 17 = .ok (.iconst 0, 1) := by decide +kernel
theorem dX2_lay_18 : decode cX2_lay 18 = .ok (.istore_n 3, 1) := by decide +kernel
theorem dX2_lay_19 : decode cX2_lay 19 = .ok (.iload_n 3, 1) := by decide +kernel
theorem dX2_lay_20 : decode cX2_lay 20 = .ok (.aload_n 1, 1) := by decide +kernel
theorem dX2_lay_21 : decode cX2_lay 21 = .ok (.getfield 42, 3) := by decide +kernel
theorem dX2_lay_24 : decode cX2_lay 24 = .ok (.if_icmp .ge 85, 3) := by decide +kernel
theorem dX2_lay_27 : decode cX2_lay 27 = .ok (.aload_n 0, 1) := by decide +kernel
theorem dX2_lay_28 : decode cX2_lay 28 = .ok (.getfield 29, 3) := by decide +kernel
theorem dX2_lay_31 : decode cX2_lay 31 = .ok (.iload_n 2, 1) := by decide +kernel
theorem dX2_lay_32 : decode cX2_lay 32 = .ok (.if_icmp .ne 77, 3) := by decide +kernel
theorem dX2_lay_35 : decode cX2_lay 35 = .ok (.iload_n 2, 1) := by decide +kernel
theorem dX2_lay_36 : decode cX2_lay 36 = .ok (.istore 4, 2) := by decide +kernel
theorem dX2_lay_38 : decode cX2_lay 38 = .ok (.iload 4, 2) := by decide +kernel
theorem dX2_lay_40 : decode cX2_lay 40 = .ok (.aload_n 1, 1) := by decide +kernel
theorem dX2_lay_41 : decode cX2_lay 41 = .ok (.getfield 47, 3) := by decide +kernel
theorem dX2_lay_44 : decode cX2_lay 44 = .ok (.iload_n 3, 1) := by decide +kernel
theorem dX2_lay_45 : decode cX2_lay 45 = .ok (.invokevirtual 50, 3) := by decide +kernel
theorem dX2_lay_48 : decode cX2_lay 48 = .ok (.iadd, 1) := by decide +kernel
theorem dX2_lay_49 : decode cX2_lay 49 = .ok (.istore_n 2, 1) := by decide +kernel
theorem dX2_lay_50 : decode cX2_lay 50 = .ok (.aload_n 0, 1) := by decide +kernel
theorem dX2_lay_51 : decode cX2_lay 51 = .ok (.aload_n 1, 1) := by decide +kernel
theorem dX2_lay_52 : decode cX2_lay 52 = .ok (.iload_n 2, 1) := by decide +kernel
theorem dX2_lay_53 : decode cX2_lay 53 = .ok (.invokevirtual 54, 3) := by decide +kernel
theorem dX2_lay_56 : decode cX2_lay 56 = .ok (.aload_n 0, 1) := by decide +kernel
theorem dX2_lay_57 : decode cX2_lay 57 = .ok (.getfield 29, 3) := by decide +kernel
theorem dX2_lay_60 : decode cX2_lay 60 = .ok (.iload_n 2, 1) := by decide +kernel
theorem dX2_lay_61 : decode cX2_lay 61 = .ok (.if_icmp .ne 22, 3) := by decide +kernel
theorem dX2_lay_64 : decode cX2_lay 64 = .ok (.aload_n 1, 1) := by decide +kernel
theorem dX2_lay_65 : decode cX2_lay 65 = .ok (.getfield 58, 3) := by decide +kernel
theorem dX2_lay_68 : decode cX2_lay 68 = .ok (.iload_n 3, 1) := by decide +kernel
theorem dX2_lay_69 : decode cX2_lay 69 = .ok (.invokevirtual 50, 3) := by decide +kernel
theorem dX2_lay_72 : decode cX2_lay 72 = .ok (.ifCond .ne 11, 3) := by decide +kernel
theorem dX2_lay_75 : decode cX2_lay 75 = .ok (.aload_n 0, 1) := by decide +kernel
theorem dX2_lay_76 : decode cX2_lay 76 = .ok (.aload_n 1, 1) := by decide +kernel
theorem dX2_lay_77 : decode cX2_lay 77 = .ok (.iload 4, 2) := by decide +kernel
theorem dX2_lay_79 : decode cX2_lay 79 = .ok (.iload_n 2, 1) := by decide +kernel
theorem dX2_lay_80 : decode cX2_lay 80 = .ok (.invokevirtual 61, 3) := by decide +kernel
theorem dX2_lay_83 : decode cX2_lay 83 = .ok (.aload_n 0, 1) := by decide +kernel
theorem dX2_lay_84 : decode cX2_lay 84 = .ok (.dup, 1) := by decide +kernel
theorem dX2_lay_85 : decode cX2_lay 85 = .ok (.getfield 36, 3) := by decide +kernel
theorem dX2_lay_88 : decode cX2_lay 88 = .ok (.aload_n 1, 1) := by decide +kernel
theorem dX2_lay_89 : decode cX2_lay 89 = .ok (.getfield 65, 3) := by decide +kernel
theorem dX2_lay_92 : decode cX2_lay 92 = .ok (.iconst 1, 1) := by decide +kernel
theorem dX2_lay_93 : decode cX2_lay 93 = .ok (.iadd, 1) := by decide +kernel
theorem dX2_lay_94 : decode cX2_lay 94 = .ok (.iadd, 1) := by decide +kernel
theorem dX2_lay_95 : decode cX2_lay 95 = .ok (.putfield 36, 3) := by decide +kernel
theorem dX2_lay_98 : decode cX2_lay 98 = .ok (.aload_n 0, 1) := by decide +kernel
theorem dX2_lay_99 : decode cX2_lay 99 = .ok (.iconst 0, 1) := by decide +kernel
theorem dX2_lay_100 : decode cX2_lay 100 = .ok (.putfield 39, 3) := by decide +kernel
theorem dX2_lay_103 : decode cX2_lay 103 = .ok (.iinc 3 1, 3) := by decide +kernel
theorem dX2_lay_106 : decode cX2_lay 106 = .ok (.goto (-87), 3) := by decide +kernel
theorem dX2_lay_109 : decode cX2_lay 109 = .ok (.aload_n 0, 1) := by decide +kernel
theorem dX2_lay_110 : decode cX2_lay 110 = .ok (.getfield 29, 3) := by decide +kernel
theorem dX2_lay_113 : decode cX2_lay 113 = .ok (.istore_n 3, 1) := by decide +kernel
theorem dX2_lay_114 : decode cX2_lay 114 = .ok (.iload_n 3, 1) := by decide +kernel
theorem dX2_lay_115 : decode cX2_lay 115 = .ok (.aload_n 1, 1) := by decide +kernel
theorem dX2_lay_116 : decode cX2_lay 116 = .ok (.getfield 68, 3) := by decide +kernel
theorem dX2_lay_119 : decode cX2_lay 119 = .ok (.if_icmp .ge 27, 3) := by decide +kernel
theorem dX2_lay_122 : decode cX2_lay 122 = .ok (.aload_n 0, 1) := by decide +kernel
theorem dX2_lay_123 : decode cX2_lay 123 = .ok (.getfield 14, 3) := by decide +kernel
theorem dX2_lay_126 : decode cX2_lay 126 = .ok (.iload_n 3, 1) := by decide +kernel
theorem dX2_lay_127 : decode cX2_lay 127 = .ok (.iconst (-1), 1) := by decide +kernel
theorem dX2_lay_128 : decode cX2_lay 128 = .ok (.invokevirtual 71, 3) := by decide +kernel
theorem dX2_lay_131 : decode cX2_lay 131 = .ok (.aload_n 0, 1) := by decide +kernel
theorem dX2_lay_132 : decode cX2_lay 132 = .ok (.getfield 20, 3) := by decide +kernel
theorem dX2_lay_135 : decode cX2_lay 135 = .ok (.iload_n 3, 1) := by decide +kernel
theorem dX2_lay_136 : decode cX2_lay 136 = .ok (.iconst (-1), 1) := by decide +kernel
theorem dX2_lay_137 : decode cX2_lay 137 = .ok (.invokevirtual 71, 3) := by decide +kernel
theorem dX2_lay_140 : decode cX2_lay 140 = .ok (.iinc 3 1, 3) := by decide +kernel
theorem dX2_lay_143 : decode cX2_lay 143 = .ok (.goto (-29), 3) := by decide +kernel
theorem dX2_lay_146 : decode cX2_lay 146 = .ok (.return_, 1) := by decide +kernel
theorem dX2_layWords_0 : decode cX2_layWords 0 = .ok (.iconst 1, 1) := by decide +kernel
theorem dX2_layWords_1 : decode cX2_layWords 1 = .ok (.istore_n 3, 1) := by decide +kernel
theorem dX2_layWords_2 : decode cX2_layWords 2 = .ok (.aload_n 0, 1) := by decide +kernel
theorem dX2_layWords_3 : decode cX2_layWords 3 = .ok (.getfield 29, 3) := by decide +kernel
theorem dX2_layWords_6 : decode cX2_layWords 6 = .ok (.istore 4, 2) := by decide +kernel
theorem dX2_layWords_8 : decode cX2_layWords 8 = .ok (.iload 4, 2) := by decide +kernel
theorem dX2_layWords_10 : decode cX2_layWords 10 = .ok (.iload_n 2, 1) := by decide +kernel
theorem dX2_layWords_11 : decode cX2_layWords 11 = .ok (.if_icmp .ge 21, 3) := by decide +kernel
theorem dX2_layWords_14 : decode cX2_layWords 14 = .ok (.iload_n 3, 1) := by decide +kernel
theorem dX2_layWords_15 : decode cX2_layWords 15 = .ok (.ifCond .eq 17, 3) := by decide +kernel
theorem dX2_layWords_18 : decode cX2_layWords 18 = .ok (.aload_n 0, 1) := by decide +kernel
theorem dX2_layWords_19 : decode cX2_layWords 19 = .ok (.aload_n 1, 1) := by decide +kernel
theorem dX2_layWords_20 : decode cX2_layWords 20 = .ok (.iload 4, 2) := by decide +kernel
theorem dX2_layWords_22 : decode cX2_layWords 22 = .ok (.invokevirtual 75, 3) := by decide +kernel
theorem dX2_layWords_25 : decode cX2_layWords 25 = .ok (.istore_n 3, 1) := by decide +kernel
theorem dX2_layWords_26 : decode cX2_layWords 26 = .ok (.iinc 4 1, 3) := by decide +kernel
theorem dX2_layWords_29 : decode cX2_layWords 29 = .ok (.goto (-21), 3) := by decide +kernel
theorem dX2_layWords_32 : decode cX2_layWords 32 = .ok (.return_, 1) := by decide +kernel
theorem dX2_layWord_0 : decode cX2_layWord 0 = .ok (.aload_n 1, 1) := by decide +kernel
theorem dX2_layWord_1 : decode cX2_layWord 1 = .ok (.getfield 79, 3) := by decide +kernel
theorem dX2_layWord_4 : decode cX2_layWord 4 = .ok (.iload_n 2, 1) := by decide +kernel
theorem dX2_layWord_5 : decode cX2_layWord 5 = .ok (.invokevirtual 50, 3) := by decide +kernel
theorem dX2_layWord_8 : decode cX2_layWord 8 = .ok (.istore_n 3, 1) := by decide +kernel
theorem dX2_layWord_9 : decode cX2_layWord 9 = .ok (.aload_n 0, 1) := by decide +kernel
theorem dX2_layWord_10 : decode cX2_layWord 10 = .ok (.getfield 39, 3) := by decide +kernel
theorem dX2_layWord_13 : decode cX2_layWord 13 = .ok (.istore 4, 2) := by decide +kernel
theorem dX2_layWord_15 : decode cX2_layWord 15 = .ok (.aload_n 0, 1) := by decide +kernel
theorem dX2_layWord_16 : decode cX2_layWord 16 = .ok (.getfield 36, 3) := by decide +kernel
theorem dX2_layWord_19 : decode cX2_layWord 19 = .ok (.istore 5, 2) := by decide +kernel
theorem dX2_layWord_21 : decode cX2_layWord 21 = .ok (.iload 5, 2) := by decide +kernel
theorem dX2_layWord_23 : decode cX2_layWord 23 = .ok (.aload_n 1, 1) := by decide +kernel
theorem dX2_layWord_24 : decode cX2_layWord 24 = .ok (.getfield 82, 3) := by decide +kernel
theorem dX2_layWord_27 : decode cX2_layWord 27 = .ok (.if_icmp .ge 97, 3) := by decide +kernel
theorem dX2_layWord_30 : decode cX2_layWord 30 = .ok (.iload 4, 2) := by decide +kernel
theorem dX2_layWord_32 : decode cX2_layWord 32 = .ok (.istore 6, 2) := by decide +kernel
theorem dX2_layWord_34 : decode cX2_layWord 34 = .ok (.iload 6, 2) := by decide +kernel
theorem dX2_layWord_36 : decode cX2_layWord 36 = .ok (.iload_n 3, 1) := by decide +kernel
theorem dX2_layWord_37 : decode cX2_layWord 37 = .ok (.iadd, 1) := by decide +kernel
theorem dX2_layWord_38 : decode cX2_layWord 38 = .ok (.aload_n 1, 1) := by decide +kernel
theorem dX2_layWord_39 : decode cX2_layWord 39 = .ok (.getfield 85, 3) := by decide +kernel
theorem dX2_layWord_42 : decode cX2_layWord 42 = .ok (.if_icmp .gt 73, 3) := by decide +kernel
theorem dX2_layWord_45 : decode cX2_layWord 45 = .ok (.aload_n 1, 1) := by decide +kernel
theorem dX2_layWord_46 : decode cX2_layWord 46 = .ok (.getfield 88, 3) := by decide +kernel
theorem dX2_layWord_49 : decode cX2_layWord 49 = .ok (.iload 5, 2) := by decide +kernel
theorem dX2_layWord_51 : decode cX2_layWord 51 = .ok (.invokevirtual 50, 3) := by decide +kernel
theorem dX2_layWord_54 : decode cX2_layWord 54 = .ok (.iload 6, 2) := by decide +kernel
theorem dX2_layWord_56 : decode cX2_layWord 56 = .ok (.iload_n 3, 1) := by decide +kernel
theorem dX2_layWord_57 : decode cX2_layWord 57 = .ok (.invokestatic 91, 3) := by decide +kernel
theorem dX2_layWord_60 : decode cX2_layWord 60 = .ok (.iand, 1) := by decide +kernel
theorem dX2_layWord_61 : decode cX2_layWord 61 = .ok (.ifCond .ne 48, 3) := by decide +kernel
theorem dX2_layWord_64 : decode cX2_layWord 64 = .ok (.aload_n 0, 1) := by decide +kernel
theorem dX2_layWord_65 : decode cX2_layWord 65 = .ok (.getfield 14, 3) := by decide +kernel
theorem dX2_layWord_68 : decode cX2_layWord 68 = .ok (.iload_n 2, 1) := by decide +kernel
theorem dX2_layWord_69 : decode cX2_layWord 69 = .ok (.iload 5, 2) := by decide +kernel
theorem dX2_layWord_71 : decode cX2_layWord 71 = .ok (.invokevirtual 71, 3) := by decide +kernel
theorem dX2_layWord_74 : decode cX2_layWord 74 = .ok (.aload_n 0, 1) := by decide +kernel
theorem dX2_layWord_75 : decode cX2_layWord 75 = .ok (.getfield 20, 3) := by decide +kernel
theorem dX2_layWord_78 : decode cX2_layWord 78 = .ok (.iload_n 2, 1) := by decide +kernel
theorem dX2_layWord_79 : decode cX2_layWord 79 = .ok (.iload 6, 2) := by decide +kernel
theorem dX2_layWord_81 : decode cX2_layWord 81 = .ok (.invokevirtual 71, 3) := by decide +kernel
theorem dX2_layWord_84 : decode cX2_layWord 84 = .ok (.aload_n 0, 1) := by decide +kernel
theorem dX2_layWord_85 : decode cX2_layWord 85 = .ok (.iload_n 2, 1) := by decide +kernel
theorem dX2_layWord_86 : decode cX2_layWord 86 = .ok (.iconst 1, 1) := by decide +kernel
theorem dX2_layWord_87 : decode cX2_layWord 87 = .ok (.iadd, 1) := by decide +kernel
theorem dX2_layWord_88 : decode cX2_layWord 88 = .ok (.putfield 29, 3) := by decide +kernel
theorem dX2_layWord_91 : decode cX2_layWord 91 = .ok (.aload_n 0, 1) := by decide +kernel
theorem dX2_layWord_92 : decode cX2_layWord 92 = .ok (.iload 5, 2) := by decide +kernel
theorem dX2_layWord_94 : decode cX2_layWord 94 = .ok (.putfield 36, 3) := by decide +kernel
theorem dX2_layWord_97 : decode cX2_layWord 97 = .ok (.aload_n 0, 1) := by decide +kernel
theorem dX2_layWord_98 : decode cX2_layWord 98 = .ok (.iload 6, 2) := by decide +kernel
theorem dX2_layWord_100 : decode cX2_layWord 100 = .ok (.iload_n 3, 1) := by decide +kernel
theorem dX2_layWord_101 : decode cX2_layWord 101 = .ok (.iadd, 1) := by decide +kernel
theorem dX2_layWord_102 : decode cX2_layWord 102 = .ok (.iconst 1, 1) := by decide +kernel
theorem dX2_layWord_103 : decode cX2_layWord 103 = .ok (.iadd, 1) := by decide +kernel
theorem dX2_layWord_104 : decode cX2_layWord 104 = .ok (.putfield 39, 3) := by decide +kernel
theorem dX2_layWord_107 : decode cX2_layWord 107 = .ok (.iconst 1, 1) := by decide +kernel
theorem dX2_layWord_108 : decode cX2_layWord 108 = .ok (.ireturn, 1) := by decide +kernel
theorem dX2_layWord_109 : decode cX2_layWord 109 = .ok (.iinc 6 1, 3) := by decide +kernel
theorem dX2_layWord_112 : decode cX2_layWord 112 = .ok (.goto (-78), 3) := by decide +kernel
theorem dX2_layWord_115 : decode cX2_layWord 115 = .ok (.iconst 0, 1) := by decide +kernel
theorem dX2_layWord_116 : decode cX2_layWord 116 = .ok (.istore 4, 2) := by decide +kernel
theorem dX2_layWord_118 : decode cX2_layWord 118 = .ok (.iinc 5 1, 3) := by decide +kernel
theorem dX2_layWord_121 : decode cX2_layWord 121 = .ok (.goto (-100), 3) := by decide +kernel
theorem dX2_layWord_124 : decode cX2_layWord 124 = .ok (.iconst 0, 1) := by decide +kernel
theorem dX2_layWord_125 : decode cX2_layWord 125 = .ok (.ireturn, 1) := by decide +kernel
theorem dX2_cells_0 : decode cX2_cells 0 = .ok (.iconst 1, 1) := by decide +kernel
theorem dX2_cells_1 : decode cX2_cells 1 = .ok (.iload_n 1, 1) := by decide +kernel
theorem dX2_cells_2 : decode cX2_cells 2 = .ok (.ishl, 1) := by decide +kernel
theorem dX2_cells_3 : decode cX2_cells 3 = .ok (.iconst 1, 1) := by decide +kernel
theorem dX2_cells_4 : decode cX2_cells 4 = .ok (.isub, 1) := by decide +kernel
theorem dX2_cells_5 : decode cX2_cells 5 = .ok (.iload_n 0, 1) := by decide +kernel
theorem dX2_cells_6 : decode cX2_cells 6 = .ok (.ishl, 1) := by decide +kernel
theorem dX2_cells_7 : decode cX2_cells 7 = .ok (.ireturn, 1) := by decide +kernel
theorem dX2_centre_0 : decode cX2_centre 0 = .ok (.iload_n 2, 1) := by decide +kernel
theorem dX2_centre_1 : decode cX2_centre 1 = .ok (.istore 4, 2) := by decide +kernel
theorem dX2_centre_3 : decode cX2_centre 3 = .ok (.iload_n 2, 1) := by decide +kernel
theorem dX2_centre_4 : decode cX2_centre 4 = .ok (.iconst 1, 1) := by decide +kernel
theorem dX2_centre_5 : decode cX2_centre 5 = .ok (.iadd, 1) := by decide +kernel
theorem dX2_centre_6 : decode cX2_centre 6 = .ok (.istore 5, 2) := by decide +kernel
theorem dX2_centre_8 : decode cX2_centre 8 = .ok (.iload 5, 2) := by decide +kernel
theorem dX2_centre_10 : decode cX2_centre 10 = .ok (.iload_n 3, 1) := by decide +kernel
theorem dX2_centre_11 : decode cX2_centre 11 = .ok (.if_icmp .gt 49, 3) := by decide +kernel
theorem dX2_centre_14 : decode cX2_centre 14 = .ok (.iload 5, 2) := by decide +kernel
theorem dX2_centre_16 : decode cX2_centre 16 = .ok (.iload_n 3, 1) := by decide +kernel
theorem dX2_centre_17 : decode cX2_centre 17 = .ok (.if_icmp .eq 24, 3) := by decide +kernel
theorem dX2_centre_20 : decode cX2_centre 20 = .ok (.aload_n 0, 1) := by decide +kernel
theorem dX2_centre_21 : decode cX2_centre 21 = .ok (.getfield 14, 3) := by decide +kernel
theorem dX2_centre_24 : decode cX2_centre 24 = .ok (.iload 5, 2) := by decide +kernel
theorem dX2_centre_26 : decode cX2_centre 26 = .ok (.invokevirtual 50, 3) := by decide +kernel
theorem dX2_centre_29 : decode cX2_centre 29 = .ok (.aload_n 0, 1) := by decide +kernel
theorem dX2_centre_30 : decode cX2_centre 30 = .ok (.getfield 14, 3) := by decide +kernel
theorem dX2_centre_33 : decode cX2_centre 33 = .ok (.iload 4, 2) := by decide +kernel
theorem dX2_centre_35 : decode cX2_centre 35 = .ok (.invokevirtual 50, 3) := by decide +kernel
theorem dX2_centre_38 : decode cX2_centre 38 = .ok (.if_icmp .eq 16, 3) := by decide +kernel
theorem dX2_centre_41 : decode cX2_centre 41 = .ok (.aload_n 0, 1) := by decide +kernel
theorem dX2_centre_42 : decode cX2_centre 42 = .ok (.aload_n 1, 1) := by decide +kernel
theorem dX2_centre_43 : decode cX2_centre 43 = .ok (.iload 4, 2) := by decide +kernel
theorem dX2_centre_45 : decode cX2_centre 45 = .ok (.iload 5, 2) := by decide +kernel
theorem dX2_centre_47 : decode cX2_centre 47 = .ok (.invokevirtual 95, 3) := by decide +kernel
theorem dX2_centre_50 : decode cX2_centre 50 = .ok (.iload 5, 2) := by decide +kernel
theorem dX2_centre_52 : decode cX2_centre 52 = .ok (.istore 4, 2) := by decide +kernel
theorem dX2_centre_54 : decode cX2_centre 54 = .ok (.iinc 5 1, 3) := by decide +kernel
theorem dX2_centre_57 : decode cX2_centre 57 = .ok (.goto (-49), 3) := by decide +kernel
theorem dX2_centre_60 : decode cX2_centre 60 = .ok (.return_, 1) := by decide +kernel
theorem dX2_centreRow_0 : decode cX2_centreRow 0 = .ok (.iconst 0, 1) := by decide +kernel
theorem dX2_centreRow_1 : decode cX2_centreRow 1 = .ok (.istore 4, 2) := by decide +kernel
theorem dX2_centreRow_3 : decode cX2_centreRow 3 = .ok (.iconst 0, 1) := by decide +kernel
theorem dX2_centreRow_4 : decode cX2_centreRow 4 = .ok (.istore 5, 2) := by decide +kernel
theorem dX2_centreRow_6 : decode cX2_centreRow 6 = .ok (.iload_n 2, 1) := by decide +kernel
theorem dX2_centreRow_7 : decode cX2_centreRow 7 = .ok (.istore 6, 2) := by decide +kernel
theorem dX2_centreRow_9 : decode cX2_centreRow 9 = .ok (.iload 6, 2) := by decide +kernel
theorem dX2_centreRow_11 : decode cX2_centreRow 11 = .ok (.iload_n 3, 1) := by decide +kernel
theorem dX2_centreRow_12 : decode cX2_centreRow 12 = .ok (.if_icmp .ge 56, 3) := by decide +kernel
theorem dX2_centreRow_15 : decode cX2_centreRow 15 = .ok (.iload 4, 2) := by decide +kernel
theorem dX2_centreRow_17 : decode cX2_centreRow 17 = .ok (.aload_n 0, 1) := by decide +kernel
theorem dX2_centreRow_18 : decode cX2_centreRow 18 = .ok (.getfield 20, 3) := by decide +kernel
theorem dX2_centreRow_21 : decode cX2_centreRow 21 = .ok (.iload 6, 2) := by decide +kernel
theorem dX2_centreRow_23 : decode cX2_centreRow 23 = .ok (.invokevirtual 50, 3) := by decide +kernel
theorem dX2_centreRow_26 : decode cX2_centreRow 26 = .ok (.aload_n 1, 1) := by decide +kernel
theorem dX2_centreRow_27 : decode cX2_centreRow 27 = .ok (.getfield 79, 3) := by decide +kernel
theorem dX2_centreRow_30 : decode cX2_centreRow 30 = .ok (.iload 6, 2) := by decide +kernel
theorem dX2_centreRow_32 : decode cX2_centreRow 32 = .ok (.invokevirtual 50, 3) := by decide +kernel
theorem dX2_centreRow_35 : decode cX2_centreRow 35 = .ok (.invokestatic 91, 3) := by decide +kernel
theorem dX2_centreRow_38 : decode cX2_centreRow 38 = .ok (.ior, 1) := by decide +kernel
theorem dX2_centreRow_39 : decode cX2_centreRow 39 = .ok (.istore 4, 2) := by decide +kernel
theorem dX2_centreRow_41 : decode cX2_centreRow 41 = .ok (.aload_n 0, 1) := by decide +kernel
theorem dX2_centreRow_42 : decode cX2_centreRow 42 = .ok (.getfield 20, 3) := by decide +kernel
theorem dX2_centreRow_45 : decode cX2_centreRow 45 = .ok (.iload 6, 2) := by decide +kernel
theorem dX2_centreRow_47 : decode cX2_centreRow 47 = .ok (.invokevirtual 50, 3) := by decide +kernel
theorem dX2_centreRow_50 : decode cX2_centreRow 50 = .ok (.aload_n 1, 1) := by decide +kernel
theorem dX2_centreRow_51 : decode cX2_centreRow 51 = .ok (.getfield 79, 3) := by decide +kernel
theorem dX2_centreRow_54 : decode cX2_centreRow 54 = .ok (.iload 6, 2) := by decide +kernel
theorem dX2_centreRow_56 : decode cX2_centreRow 56 = .ok (.invokevirtual 50, 3) := by decide +kernel
theorem dX2_centreRow_59 : decode cX2_centreRow 59 = .ok (.iadd, 1) := by decide +kernel
theorem dX2_centreRow_60 : decode cX2_centreRow 60 = .ok (.istore 5, 2) := by decide +kernel
theorem dX2_centreRow_62 : decode cX2_centreRow 62 = .ok (.iinc 6 1, 3) := by decide +kernel
theorem dX2_centreRow_65 : decode cX2_centreRow 65 = .ok (.goto (-56), 3) := by decide +kernel
theorem dX2_centreRow_68 : decode cX2_centreRow 68 = .ok (.aload_n 1, 1) := by decide +kernel
theorem dX2_centreRow_69 : decode cX2_centreRow 69 = .ok (.getfield 88, 3) := by decide +kernel
theorem dX2_centreRow_72 : decode cX2_centreRow 72 = .ok (.aload_n 0, 1) := by decide +kernel
theorem dX2_centreRow_73 : decode cX2_centreRow 73 = .ok (.getfield 14, 3) := by decide +kernel
theorem dX2_centreRow_76 : decode cX2_centreRow 76 = .ok (.iload_n 2, 1) := by decide +kernel
theorem dX2_centreRow_77 : decode cX2_centreRow 77 = .ok (.invokevirtual 50, 3) := by decide +kernel
theorem dX2_centreRow_80 : decode cX2_centreRow 80 = .ok (.invokevirtual 50, 3) := by decide +kernel
theorem dX2_centreRow_83 : decode cX2_centreRow 83 = .ok (.istore 6, 2) := by decide +kernel
theorem dX2_centreRow_85 : decode cX2_centreRow 85 = .ok (.aload_n 1, 1) := by decide +kernel
theorem dX2_centreRow_86 : decode cX2_centreRow 86 = .ok (.getfield 85, 3) := by decide +kernel
theorem dX2_centreRow_89 : decode cX2_centreRow 89 = .ok (.iload 5, 2) := by decide +kernel
theorem dX2_centreRow_91 : decode cX2_centreRow 91 = .ok (.isub, 1) := by decide +kernel
theorem dX2_centreRow_92 : decode cX2_centreRow 92 = .ok (.iconst 2, 1) := by decide +kernel
theorem dX2_centreRow_93 : decode cX2_centreRow 93 = .ok (.idiv, 1) := by decide +kernel
theorem dX2_centreRow_94 : decode cX2_centreRow 94 = .ok (.istore 7, 2) := by decide +kernel
theorem dX2_centreRow_96 : decode cX2_centreRow 96 = .ok (.iload 7, 2) := by decide +kernel
theorem dX2_centreRow_98 : decode cX2_centreRow 98 = .ok (.ifCond .le 20, 3) := by decide +kernel
theorem dX2_centreRow_101 : decode cX2_centreRow 101 = .ok (.iload 6, 2) := by decide +kernel
theorem dX2_centreRow_103 : decode cX2_centreRow 103 = .ok (.iload 4, 2) := by decide +kernel
theorem dX2_centreRow_105 : decode cX2_centreRow 105 = .ok (.iload 7, 2) := by decide +kernel
theorem dX2_centreRow_107 : decode cX2_centreRow 107 = .ok (.ishl, 1) := by decide +kernel
theorem dX2_centreRow_108 : decode cX2_centreRow 108 = .ok (.iand, 1) := by decide +kernel
theorem dX2_centreRow_109 : decode cX2_centreRow 109 = .ok (.ifCond .eq 9, 3) := by decide +kernel
theorem dX2_centreRow_112 : decode cX2_centreRow 112 = .ok (.iinc 7 (-1), 3) := by decide +kernel
theorem dX2_centreRow_115 : decode cX2_centreRow 115 = .ok (.goto (-19), 3) := by decide +kernel
theorem dX2_centreRow_118 : decode cX2_centreRow 118 = .ok (.iload_n 2, 1) := by decide +kernel
theorem dX2_centreRow_119 : decode cX2_centreRow 119 = .ok (.istore 8, 2) := by decide +kernel
theorem dX2_centreRow_121 : decode cX2_centreRow 121 = .ok (.iload 8, 2) := by decide +kernel
theorem dX2_centreRow_123 : decode cX2_centreRow 123 = .ok (.iload_n 3, 1) := by decide +kernel
theorem dX2_centreRow_124 : decode cX2_centreRow 124 = .ok (.if_icmp .ge 30, 3) := by decide +kernel
theorem dX2_centreRow_127 : decode cX2_centreRow 127 = .ok (.aload_n 0, 1) := by decide +kernel
theorem dX2_centreRow_128 : decode cX2_centreRow 128 = .ok (.getfield 20, 3) := by decide +kernel
theorem dX2_centreRow_131 : decode cX2_centreRow 131 = .ok (.iload 8, 2) := by decide +kernel
theorem dX2_centreRow_133 : decode cX2_centreRow 133 = .ok (.aload_n 0, 1) := by decide +kernel
theorem dX2_centreRow_134 : decode cX2_centreRow 134 = .ok (.getfield 20, 3) := by decide +kernel
theorem dX2_centreRow_137 : decode cX2_centreRow 137 = .ok (.iload 8, 2) := by decide +kernel
theorem dX2_centreRow_139 : decode cX2_centreRow 139 = .ok (.invokevirtual 50, 3) := by decide +kernel
theorem dX2_centreRow_142 : decode cX2_centreRow 142 = .ok (.iload 7, 2) := by decide +kernel
theorem dX2_centreRow_144 : decode cX2_centreRow 144 = .ok (.iadd, 1) := by decide +kernel
theorem dX2_centreRow_145 : decode cX2_centreRow 145 = .ok (.invokevirtual 71, 3) := by decide +kernel
theorem dX2_centreRow_148 : decode cX2_centreRow 148 = .ok (.iinc 8 1, 3) := by decide +kernel
theorem dX2_centreRow_151 : decode cX2_centreRow 151 = .ok (.goto (-30), 3) := by decide +kernel
theorem dX2_centreRow_154 : decode cX2_centreRow 154 = .ok (.return_, 1) := by decide +kernel
theorem dX2_listLetters_0 : decode cX2_listLetters 0 = .ok (.aload_n 0, 1) := by decide +kernel
theorem dX2_listLetters_1 : decode cX2_listLetters 1 = .ok (.iconst 0, 1) := by decide +kernel
theorem dX2_listLetters_2 : decode cX2_listLetters 2 = .ok (.putfield 33, 3) := by decide +kernel
theorem dX2_listLetters_5 : decode cX2_listLetters 5 = .ok (.iconst 0, 1) := by decide +kernel
theorem dX2_listLetters_6 : decode cX2_listLetters 6 = .ok (.istore_n 2, 1) := by decide +kernel
theorem dX2_listLetters_7 : decode cX2_listLetters 7 = .ok (.iload_n 2, 1) := by decide +kernel
theorem dX2_listLetters_8 : decode cX2_listLetters 8 = .ok (.aload_n 0, 1) := by decide +kernel
theorem dX2_listLetters_9 : decode cX2_listLetters 9 = .ok (.getfield 29, 3) := by decide +kernel
theorem dX2_listLetters_12 : decode cX2_listLetters 12 = .ok (.if_icmp .ge 113, 3) := by decide +kernel
theorem dX2_listLetters_15 : decode cX2_listLetters 15 = .ok (.aload_n 1, 1) := by decide +kernel
theorem dX2_listLetters_16 : decode cX2_listLetters 16 = .ok (.getfield 79, 3) := by decide +kernel
theorem dX2_listLetters_19 : decode cX2_listLetters 19 = .ok (.iload_n 2, 1) := by decide +kernel
theorem dX2_listLetters_20 : decode cX2_listLetters 20 = .ok (.invokevirtual 50, 3) := by decide +kernel
theorem dX2_listLetters_23 : decode cX2_listLetters 23 = .ok (.istore_n 3, 1) := by decide +kernel
theorem dX2_listLetters_24 : decode cX2_listLetters 24 = .ok (.iconst 0, 1) := by decide +kernel
theorem dX2_listLetters_25 : decode cX2_listLetters 25 = .ok (.istore 4, 2) := by decide +kernel
theorem dX2_listLetters_27 : decode cX2_listLetters 27 = .ok (.iload 4, 2) := by decide +kernel
theorem dX2_listLetters_29 : decode cX2_listLetters 29 = .ok (.iload_n 3, 1) := by decide +kernel
theorem dX2_listLetters_30 : decode cX2_listLetters 30 = .ok (.if_icmp .ge 89, 3) := by decide +kernel
theorem dX2_listLetters_33 : decode cX2_listLetters 33 = .ok (.aload_n 0, 1) := by decide +kernel
theorem dX2_listLetters_34 : decode cX2_listLetters 34 = .ok (.getfield 20, 3) := by decide +kernel
theorem dX2_listLetters_37 : decode cX2_listLetters 37 = .ok (.iload_n 2, 1) := by decide +kernel
theorem dX2_listLetters_38 : decode cX2_listLetters 38 = .ok (.invokevirtual 50, 3) := by decide +kernel
theorem dX2_listLetters_41 : decode cX2_listLetters 41 = .ok (.iload 4, 2) := by decide +kernel
theorem dX2_listLetters_43 : decode cX2_listLetters 43 = .ok (.iadd, 1) := by decide +kernel
theorem dX2_listLetters_44 : decode cX2_listLetters 44 = .ok (.istore 5, 2) := by decide +kernel
theorem dX2_listLetters_46 : decode cX2_listLetters 46 = .ok (.aload_n 0, 1) := by decide +kernel
theorem dX2_listLetters_47 : decode cX2_listLetters 47 = .ok (.getfield 23, 3) := by decide +kernel
theorem dX2_listLetters_50 : decode cX2_listLetters 50 = .ok (.aload_n 0, 1) := by decide +kernel
theorem dX2_listLetters_51 : decode cX2_listLetters 51 = .ok (.getfield 33, 3) := by decide +kernel
theorem dX2_listLetters_54 : decode cX2_listLetters 54 = .ok (.bipush 100, 2) := by decide +kernel
theorem dX2_listLetters_56 : decode cX2_listLetters 56 = .ok (.aload_n 0, 1) := by decide +kernel
theorem dX2_listLetters_57 : decode cX2_listLetters 57 = .ok (.getfield 14, 3) := by decide +kernel
theorem dX2_listLetters_60 : decode cX2_listLetters 60 = .ok (.iload_n 2, 1) := by decide +kernel
theorem dX2_listLetters_61 : decode cX2_listLetters 61 = .ok (.invokevirtual 50, 3) := by decide +kernel
theorem dX2_listLetters_64 : decode cX2_listLetters 64 = .ok (.imul, 1) := by decide +kernel
theorem dX2_listLetters_65 : decode cX2_listLetters 65 = .ok (.iload 5, 2) := by decide +kernel
theorem dX2_listLetters_67 : decode cX2_listLetters 67 = .ok (.iadd, 1) := by decide +kernel
theorem dX2_listLetters_68 : decode cX2_listLetters 68 = .ok (.invokevirtual 71, 3) := by decide +kernel
theorem dX2_listLetters_71 : decode cX2_listLetters 71 = .ok (.aload_n 0, 1) := by decide +kernel
theorem dX2_listLetters_72 : decode cX2_listLetters 72 = .ok (.getfield 26, 3) := by decide +kernel
theorem dX2_listLetters_75 : decode cX2_listLetters 75 = .ok (.aload_n 0, 1) := by decide +kernel
theorem dX2_listLetters_76 : decode cX2_listLetters 76 = .ok (.getfield 33, 3) := by decide +kernel
theorem dX2_listLetters_79 : decode cX2_listLetters 79 = .ok (.aload_n 1, 1) := by decide +kernel
theorem dX2_listLetters_80 : decode cX2_listLetters 80 = .ok (.aload_n 1, 1) := by decide +kernel
theorem dX2_listLetters_81 : decode cX2_listLetters 81 = .ok (.iload_n 2, 1) := by decide +kernel
theorem dX2_listLetters_82 : decode cX2_listLetters 82 = .ok (.iload 4, 2) := by decide +kernel
theorem dX2_listLetters_84 : decode cX2_listLetters 84 = .ok (.invokevirtual 98, 3) := by decide +kernel
theorem dX2_listLetters_87 : decode cX2_listLetters 87 = .ok (.iload 5, 2) := by decide +kernel
theorem dX2_listLetters_89 : decode cX2_listLetters 89 = .ok (.aload_n 0, 1) := by decide +kernel
theorem dX2_listLetters_90 : decode cX2_listLetters 90 = .ok (.getfield 14, 3) := by decide +kernel
theorem dX2_listLetters_93 : decode cX2_listLetters 93 = .ok (.iload_n 2, 1) := by decide +kernel
theorem dX2_listLetters_94 : decode cX2_listLetters 94 = .ok (.invokevirtual 50, 3) := by decide +kernel
theorem dX2_listLetters_97 : decode cX2_listLetters 97 = .ok (.invokevirtual 101, 3) := by decide +kernel
theorem dX2_listLetters_100 : decode cX2_listLetters 100 = .ok (.invokevirtual 71, 3) := by decide +kernel
theorem dX2_listLetters_103 : decode cX2_listLetters 103 = .ok (.aload_n 0, 1) := by decide +kernel
theorem dX2_listLetters_104 : decode cX2_listLetters 104 = .ok (.dup, 1) := by decide +kernel
theorem dX2_listLetters_105 : decode cX2_listLetters 105 = .ok (.getfield 33, 3) := by decide +kernel
theorem dX2_listLetters_108 : decode cX2_listLetters 108 = .ok (.iconst 1, 1) := by decide +kernel
theorem dX2_listLetters_109 : decode cX2_listLetters 109 = .ok (.iadd, 1) := by decide +kernel
theorem dX2_listLetters_110 : decode cX2_listLetters 110 = .ok (.putfield 33, 3) := by decide +kernel
theorem dX2_listLetters_113 : decode cX2_listLetters 113 = .ok (.iinc 4 1, 3) := by decide +kernel
theorem dX2_listLetters_116 : decode cX2_listLetters 116 = .ok (.goto (-89), 3) := by decide +kernel
theorem dX2_listLetters_119 : decode cX2_listLetters 119 = .ok (.iinc 2 1, 3) := by decide +kernel
theorem dX2_listLetters_122 : decode cX2_listLetters 122 = .ok (.goto (-115), 3) := by decide +kernel
theorem dX2_listLetters_125 : decode cX2_listLetters 125 = .ok (.return_, 1) := by decide +kernel
theorem dX2_costsOf_0 : decode cX2_costsOf 0 = .ok (.iconst 0, 1) := by decide +kernel
theorem dX2_costsOf_1 : decode cX2_costsOf 1 = .ok (.istore_n 3, 1) := by decide +kernel
theorem dX2_costsOf_2 : decode cX2_costsOf 2 = .ok (.iload_n 1, 1) := by decide +kernel
theorem dX2_costsOf_3 : decode cX2_costsOf 3 = .ok (.istore 4, 2) := by decide +kernel
theorem dX2_costsOf_5 : decode cX2_costsOf 5 = .ok (.iload 4, 2) := by decide +kernel
theorem dX2_costsOf_7 : decode cX2_costsOf 7 = .ok (.iload_n 2, 1) := by decide +kernel
theorem dX2_costsOf_8 : decode cX2_costsOf 8 = .ok (.if_icmp .ge 21, 3) := by decide +kernel
theorem dX2_costsOf_11 : decode cX2_costsOf 11 = .ok (.iload_n 3, 1) := by decide +kernel
theorem dX2_costsOf_12 : decode cX2_costsOf 12 = .ok (.aload_n 0, 1) := by decide +kernel
theorem dX2_costsOf_13 : decode cX2_costsOf 13 = .ok (.getfield 26, 3) := by decide +kernel
theorem dX2_costsOf_16 : decode cX2_costsOf 16 = .ok (.iload 4, 2) := by decide +kernel
theorem dX2_costsOf_18 : decode cX2_costsOf 18 = .ok (.invokevirtual 50, 3) := by decide +kernel
theorem dX2_costsOf_21 : decode cX2_costsOf 21 = .ok (.iadd, 1) := by decide +kernel
theorem dX2_costsOf_22 : decode cX2_costsOf 22 = .ok (.istore_n 3, 1) := by decide +kernel
theorem dX2_costsOf_23 : decode cX2_costsOf 23 = .ok (.iinc 4 1, 3) := by decide +kernel
theorem dX2_costsOf_26 : decode cX2_costsOf 26 = .ok (.goto (-21), 3) := by decide +kernel
theorem dX2_costsOf_29 : decode cX2_costsOf 29 = .ok (.iload_n 3, 1) := by decide +kernel
theorem dX2_costsOf_30 : decode cX2_costsOf 30 = .ok (.ireturn, 1) := by decide +kernel
theorem dX2_wordOn_0 : decode cX2_wordOn 0 = .ok (.iconst 0, 1) := by decide +kernel
theorem dX2_wordOn_1 : decode cX2_wordOn 1 = .ok (.istore 4, 2) := by decide +kernel
theorem dX2_wordOn_3 : decode cX2_wordOn 3 = .ok (.iload 4, 2) := by decide +kernel
theorem dX2_wordOn_5 : decode cX2_wordOn 5 = .ok (.aload_n 0, 1) := by decide +kernel
theorem dX2_wordOn_6 : decode cX2_wordOn 6 = .ok (.getfield 29, 3) := by decide +kernel
theorem dX2_wordOn_9 : decode cX2_wordOn 9 = .ok (.if_icmp .ge 70, 3) := by decide +kernel
theorem dX2_wordOn_12 : decode cX2_wordOn 12 = .ok (.aload_n 0, 1) := by decide +kernel
theorem dX2_wordOn_13 : decode cX2_wordOn 13 = .ok (.getfield 20, 3) := by decide +kernel
theorem dX2_wordOn_16 : decode cX2_wordOn 16 = .ok (.iload 4, 2) := by decide +kernel
theorem dX2_wordOn_18 : decode cX2_wordOn 18 = .ok (.invokevirtual 50, 3) := by decide +kernel
theorem dX2_wordOn_21 : decode cX2_wordOn 21 = .ok (.istore 5, 2) := by decide +kernel
theorem dX2_wordOn_23 : decode cX2_wordOn 23 = .ok (.iload 5, 2) := by decide +kernel
theorem dX2_wordOn_25 : decode cX2_wordOn 25 = .ok (.iload_n 2, 1) := by decide +kernel
theorem dX2_wordOn_26 : decode cX2_wordOn 26 = .ok (.if_icmp .gt 23, 3) := by decide +kernel
theorem dX2_wordOn_29 : decode cX2_wordOn 29 = .ok (.iload_n 2, 1) := by decide +kernel
theorem dX2_wordOn_30 : decode cX2_wordOn 30 = .ok (.iload 5, 2) := by decide +kernel
theorem dX2_wordOn_32 : decode cX2_wordOn 32 = .ok (.aload_n 1, 1) := by decide +kernel
theorem dX2_wordOn_33 : decode cX2_wordOn 33 = .ok (.getfield 79, 3) := by decide +kernel
theorem dX2_wordOn_36 : decode cX2_wordOn 36 = .ok (.iload 4, 2) := by decide +kernel
theorem dX2_wordOn_38 : decode cX2_wordOn 38 = .ok (.invokevirtual 50, 3) := by decide +kernel
theorem dX2_wordOn_41 : decode cX2_wordOn 41 = .ok (.iadd, 1) := by decide +kernel
theorem dX2_wordOn_42 : decode cX2_wordOn 42 = .ok (.if_icmp .ge 7, 3) := by decide +kernel
theorem dX2_wordOn_45 : decode cX2_wordOn 45 = .ok (.iconst 1, 1) := by decide +kernel
theorem dX2_wordOn_46 : decode cX2_wordOn 46 = .ok (.goto 4, 3) := by decide +kernel
theorem dX2_wordOn_49 : decode cX2_wordOn 49 = .ok (.iconst 0, 1) := by decide +kernel
theorem dX2_wordOn_50 : decode cX2_wordOn 50 = .ok (.istore 6, 2) := by decide +kernel
theorem dX2_wordOn_52 : decode cX2_wordOn 52 = .ok (.iload 6, 2) := by decide +kernel
theorem dX2_wordOn_54 : decode cX2_wordOn 54 = .ok (.ifCond .eq 19, 3) := by decide +kernel
theorem dX2_wordOn_57 : decode cX2_wordOn 57 = .ok (.aload_n 0, 1) := by decide +kernel
theorem dX2_wordOn_58 : decode cX2_wordOn 58 = .ok (.getfield 14, 3) := by decide +kernel
theorem dX2_wordOn_61 : decode cX2_wordOn 61 = .ok (.iload 4, 2) := by decide +kernel
theorem dX2_wordOn_63 : decode cX2_wordOn 63 = .ok (.invokevirtual 50, 3) := by decide +kernel
theorem dX2_wordOn_66 : decode cX2_wordOn 66 = .ok (.iload_n 3, 1) := by decide +kernel
theorem dX2_wordOn_67 : decode cX2_wordOn 67 = .ok (.if_icmp .ne 6, 3) := by decide +kernel
theorem dX2_wordOn_70 : decode cX2_wordOn 70 = .ok (.iload 4, 2) := by decide +kernel
theorem dX2_wordOn_72 : decode cX2_wordOn 72 = .ok (.ireturn, 1) := by decide +kernel
theorem dX2_wordOn_73 : decode cX2_wordOn 73 = .ok (.iinc 4 1, 3) := by decide +kernel
theorem dX2_wordOn_76 : decode cX2_wordOn 76 = .ok (.goto (-73), 3) := by decide +kernel
theorem dX2_wordOn_79 : decode cX2_wordOn 79 = .ok (.iconst (-1), 1) := by decide +kernel
theorem dX2_wordOn_80 : decode cX2_wordOn 80 = .ok (.ireturn, 1) := by decide +kernel
theorem dX3_init_0 : decode cX3_init 0 = .ok (.aload_n 0, 1) := by decide +kernel
theorem dX3_init_1 : decode cX3_init 1 = .ok (.invokespecial 3, 3) := by decide +kernel
theorem dX3_init_4 : decode cX3_init 4 = .ok (.aload_n 0, 1) := by decide +kernel
theorem dX3_init_5 : decode cX3_init 5 = .ok (.iconst 0, 1) := by decide +kernel
theorem dX3_init_6 : decode cX3_init 6 = .ok (.putfield 9, 3) := by decide +kernel
theorem dX3_init_9 : decode cX3_init 9 = .ok (.aload_n 0, 1) := by decide +kernel
theorem dX3_init_10 : decode cX3_init 10 = .ok (.iconst (-1), 1) := by decide +kernel
theorem dX3_init_11 : decode cX3_init 11 = .ok (.putfield 15, 3) := by decide +kernel
theorem dX3_init_14 : decode cX3_init 14 = .ok (.aload_n 0, 1) := by decide +kernel
theorem dX3_init_15 : decode cX3_init 15 = .ok (.iconst 0, 1) := by decide +kernel
theorem dX3_init_16 : decode cX3_init 16 = .ok (.putfield 18, 3) := by decide +kernel
theorem dX3_init_19 : decode cX3_init 19 = .ok (.aload_n 0, 1) := by decide +kernel
theorem dX3_init_20 : decode cX3_init 20 = .ok (.iconst 0, 1) := by decide +kernel
theorem dX3_init_21 : decode cX3_init 21 = .ok (.putfield 21, 3) := by decide +kernel
theorem dX3_init_24 : decode cX3_init 24 = .ok (.aload_n 0, 1) := by decide +kernel
theorem dX3_init_25 : decode cX3_init 25 = .ok (.iconst 0, 1) := by decide +kernel
theorem dX3_init_26 : decode cX3_init 26 = .ok (.putfield 24, 3) := by decide +kernel
theorem dX3_init_29 : decode cX3_init 29 = .ok (.aload_n 0, 1) := by decide +kernel
theorem dX3_init_30 : decode cX3_init 30 = .ok (.iconst 0, 1) := by decide +kernel
theorem dX3_init_31 : decode cX3_init 31 = .ok (.putfield 28, 3) := by decide +kernel
theorem dX3_init_34 : decode cX3_init 34 = .ok (.aload_n 0, 1) := by decide +kernel
theorem dX3_init_35 : decode cX3_init 35 = .ok (.aload_n 1, 1) := by decide +kernel
theorem dX3_init_36 : decode cX3_init 36 = .ok (.putfield 31, 3) := by decide +kernel
theorem dX3_init_39 : decode cX3_init 39 = .ok (.return_, 1) := by decide +kernel
theorem dX3_read_0 : decode cX3_read 0 = .ok (.aload_n 0, 1) := by decide +kernel
theorem dX3_read_1 : decode cX3_read 1 = .ok (.iconst 0, 1) := by decide +kernel
theorem dX3_read_2 : decode cX3_read 2 = .ok (.putfield 9, 3) := by decide +kernel
theorem dX3_read_5 : decode cX3_read 5 = .ok (.aload_n 0, 1) := by decide +kernel
theorem dX3_read_6 : decode cX3_read 6 = .ok (.iconst (-1), 1) := by decide +kernel
theorem dX3_read_7 : decode cX3_read 7 = .ok (.putfield 15, 3) := by decide +kernel
theorem dX3_read_10 : decode cX3_read 10 = .ok (.aload_n 0, 1) := by decide +kernel
theorem dX3_read_11 : decode cX3_read 11 = .ok (.iconst 0, 1) := by decide +kernel
theorem dX3_read_12 : decode cX3_read 12 = .ok (.putfield 21, 3) := by decide +kernel
theorem dX3_read_15 : decode cX3_read 15 = .ok (.aload_n 0, 1) := by decide +kernel
theorem dX3_read_16 : decode cX3_read 16 = .ok (.iconst 0, 1) := by decide +kernel
theorem dX3_read_17 : decode cX3_read 17 = .ok (.putfield 24, 3) := by decide +kernel
theorem dX3_read_20 : decode cX3_read 20 = .ok (.aload_n 0, 1) := by decide +kernel
theorem dX3_read_21 : decode cX3_read 21 = .ok (.iconst 0, 1) := by decide +kernel
theorem dX3_read_22 : decode cX3_read 22 = .ok (.putfield 28, 3) := by decide +kernel
theorem dX3_read_25 : decode cX3_read 25 = .ok (.aload_n 0, 1) := by decide +kernel
theorem dX3_read_26 : decode cX3_read 26 = .ok (.getfield 31, 3) := by decide +kernel
theorem dX3_read_29 : decode cX3_read 29 = .ok (.invokevirtual 35, 3) := by decide +kernel
theorem dX3_read_32 : decode cX3_read 32 = .ok (.aload_n 0, 1) := by decide +kernel
theorem dX3_read_33 : decode cX3_read 33 = .ok (.aload_n 1, 1) := by decide +kernel
theorem dX3_read_34 : decode cX3_read 34 = .ok (.invokevirtual 40, 3) := by decide +kernel
theorem dX3_read_37 : decode cX3_read 37 = .ok (.istore_n 2, 1) := by decide +kernel
theorem dX3_read_38 : decode cX3_read 38 = .ok (.iconst 0, 1) := by decide +kernel
theorem dX3_read_39 : decode cX3_read 39 = .ok (.istore_n 3, 1) := by decide +kernel
theorem dX3_read_40 : decode cX3_read 40 = .ok (.iload_n 3, 1) := by decide +kernel
theorem dX3_read_41 : decode cX3_read 41 = .ok (.sipush 500, 3) := by decide +kernel
theorem dX3_read_44 : decode cX3_read 44 = .ok (.if_icmp .ge 29, 3) := by decide +kernel
theorem dX3_read_47 : decode cX3_read 47 = .ok (.iload_n 2, 1) := by decide +kernel
theorem dX3_read_48 : decode cX3_read 48 = .ok (.ifCond .eq 25, 3) := by decide +kernel
theorem dX3_read_51 : decode cX3_read 51 = .ok (.aload_n 0, 1) := by decide +kernel
theorem dX3_read_52 : decode cX3_read 52 = .ok (.getfield 31, 3) := by decide +kernel
theorem dX3_read_55 : decode cX3_read 55 = .ok (.getfield 44, 3) := by decide +kernel
theorem dX3_read_58 : decode cX3_read 58 = .ok (.ifCond .eq 15, 3) := by decide +kernel
theorem dX3_read_61 : decode cX3_read 61 = .ok (.aload_n 0, 1) := by decide +kernel
theorem dX3_read_62 : decode cX3_read 62 = .ok (.aload_n 1, 1) := by decide +kernel
theorem dX3_read_63 : decode cX3_read 63 = .ok (.invokevirtual 47, 3) := by decide +kernel
theorem dX3_read_66 : decode cX3_read 66 = .ok (.istore_n 2, 1) := by decide +kernel
theorem dX3_read_67 : decode cX3_read 67 = .ok (.iinc 3 1, 3) := by decide +kernel
theorem dX3_read_70 : decode cX3_read 70 = .ok (.goto (-30), 3) := by decide +kernel
theorem dX3_read_73 : decode cX3_read 73 = .ok (.iload_n 2, 1) := by decide +kernel
theorem dX3_read_74 : decode cX3_read 74 = .ok (.ireturn, 1) := by decide +kernel
theorem dX3_fail_0 : decode cX3_fail 0 = .ok (.aload_n 0, 1) := by decide +kernel
theorem dX3_fail_1 : decode cX3_fail 1 = .ok (.iload_n 1, 1) := by decide +kernel
theorem dX3_fail_2 : decode cX3_fail 2 = .ok (.putfield 9, 3) := by decide +kernel
theorem dX3_fail_5 : decode cX3_fail 5 = .ok (.aload_n 0, 1) := by decide +kernel
theorem dX3_fail_6 : decode cX3_fail 6 = .ok (.aload_n 0, 1) := by decide +kernel
theorem dX3_fail_7 : decode cX3_fail 7 = .ok (.getfield 31, 3) := by decide +kernel
theorem dX3_fail_10 : decode cX3_fail 10 = .ok (.getfield 50, 3) := by decide +kernel
theorem dX3_fail_13 : decode cX3_fail 13 = .ok (.putfield 15, 3) := by decide +kernel
theorem dX3_fail_16 : decode cX3_fail 16 = .ok (.iconst 0, 1) := by decide +kernel
theorem dX3_fail_17 : decode cX3_fail 17 = .ok (.ireturn, 1) := by decide +kernel
theorem dX3_readSize_0 : decode cX3_readSize 0 = .ok (.aload_n 0, 1) := by decide +kernel
theorem dX3_readSize_1 : decode cX3_readSize 1 = .ok (.getfield 31, 3) := by decide +kernel
theorem dX3_readSize_4 : decode cX3_readSize 4 = .ok (.ldc 53, 2) := by decide +kernel
theorem dX3_readSize_6 : decode cX3_readSize 6 = .ok (.invokevirtual 55, 3) := by decide +kernel
theorem dX3_readSize_9 : decode cX3_readSize 9 = .ok (.ifCond .ne 9, 3) := by decide +kernel
theorem dX3_readSize_12 : decode cX3_readSize 12 = .ok (.aload_n 0, 1) := by decide +kernel
theorem dX3_readSize_13 : decode cX3_readSize 13 = .ok (.iconst 1, 1) := by decide +kernel
theorem dX3_readSize_14 : decode cX3_readSize 14 = .ok (.invokevirtual 59, 3) := by decide +kernel
theorem dX3_readSize_17 : decode cX3_readSize 17 = .ok (.ireturn, 1) := by decide +kernel
theorem dX3_readSize_18 : decode cX3_readSize 18 = .ok (.aload_n 0, 1) := by decide +kernel
theorem dX3_readSize_19 : decode cX3_readSize 19 = .ok (.getfield 31, 3) := by decide +kernel
theorem dX3_readSize_22 : decode cX3_readSize 22 = .ok (.invokevirtual 63, 3) := by decide +kernel
theorem dX3_readSize_25 : decode cX3_readSize 25 = .ok (.aload_n 0, 1) := by decide +kernel
theorem dX3_readSize_26 : decode cX3_readSize 26 = .ok (.iconst 4, 1) := by decide +kernel
theorem dX3_readSize_27 : decode cX3_readSize 27 = .ok (.bipush 24, 2) := by decide +kernel
theorem dX3_readSize_29 : decode cX3_readSize 29 = .ok (.invokevirtual 66, 3) := by decide +kernel
theorem dX3_readSize_32 : decode cX3_readSize 32 = .ok (.ifCond .ne 5, 3) := by decide +kernel
theorem dX3_readSize_35 : decode cX3_readSize 35 = .ok (.iconst 0, 1) := by decide +kernel
theorem dX3_readSize_36 : decode cX3_readSize 36 = .ok (.ireturn, 1) := by decide +kernel
theorem dX3_readSize_37 : decode cX3_readSize 37 = .ok (.aload_n 0, 1) := by decide +kernel
theorem dX3_readSize_38 : decode cX3_readSize 38 = .ok (.getfield 18, 3) := by decide +kernel
theorem dX3_readSize_41 : decode cX3_readSize 41 = .ok (.istore_n 2, 1) := by decide +kernel
theorem dX3_readSize_42 : decode cX3_readSize 42 = .ok (.aload_n 0, 1) := by decide +kernel
theorem dX3_readSize_43 : decode cX3_readSize 43 = .ok (.iconst 2, 1) := by decide +kernel
theorem dX3_readSize_44 : decode cX3_readSize 44 = .ok (.bipush 12, 2) := by decide +kernel
theorem dX3_readSize_46 : decode cX3_readSize 46 = .ok (.invokevirtual 66, 3) := by decide +kernel
theorem dX3_readSize_49 : decode cX3_readSize 49 = .ok (.ifCond .ne 5, 3) := by decide +kernel
theorem dX3_readSize_52 : decode cX3_readSize 52 = .ok (.iconst 0, 1) := by decide +kernel
theorem dX3_readSize_53 : decode cX3_readSize 53 = .ok (.ireturn, 1) := by decide +kernel
theorem dX3_readSize_54 : decode cX3_readSize 54 = .ok (.aload_n 1, 1) := by decide +kernel
theorem dX3_readSize_55 : decode cX3_readSize 55 = .ok (.iload_n 2, 1) := by decide +kernel
theorem dX3_readSize_56 : decode cX3_readSize 56 = .ok (.aload_n 0, 1) := by decide +kernel
theorem dX3_readSize_57 : decode cX3_readSize 57 = .ok (.getfield 18, 3) := by decide +kernel
theorem dX3_readSize_60 : decode cX3_readSize 60 = .ok (.invokevirtual 70, 3) := by decide +kernel
theorem dX3_readSize_63 : decode cX3_readSize 63 = .ok (.aload_n 0, 1) := by decide +kernel
theorem dX3_readSize_64 : decode cX3_readSize 64 = .ok (.invokevirtual 76, 3) := by decide +kernel
theorem dX3_readSize_67 : decode cX3_readSize 67 = .ok (.ireturn, 1) := by decide +kernel
theorem dX3_readStatement_0 : decode cX3_readStatement 0 = .ok (.aload_n 0, 1) := by decide +kernel
theorem dX3_readStatement_1 : decode cX3_readStatement 1 = .ok (.getfield 31, 3) := by decide +kernel
theorem dX3_readStatement_4 : decode cX3_readStatement 4 = .ok (.ldc 80, 2) := by decide +kernel
theorem dX3_readStatement_6 : decode cX3_readStatement 6 = .ok (.invokevirtual 55, 3) := by decide +kernel
theorem dX3_readStatement_9 : decode cX3_readStatement 9 = .ok (.ifCond .eq 9, 3) := by decide +kernel
theorem dX3_readStatement_12 : decode cX3_readStatement 12 = .ok (.aload_n 0, 1) := by decide +kernel
theorem dX3_readStatement_13 : decode cX3_readStatement 13 = .ok (.aload_n 1, 1) := by decide +kernel
theorem dX3_readStatement_14 : decode cX3_readStatement 14 = .ok (.invokevirtual 82, 3) := by decide +kernel
theorem dX3_readStatement_17 : decode cX3_readStatement 17 = .ok (.ireturn, 1) := by decide +kernel
theorem dX3_readStatement_18 : decode cX3_readStatement 18 = .ok (.aload_n 0, 1) := by decide +kernel
theorem dX3_readStatement_19 : decode cX3_readStatement 19 = .ok (.getfield 31, 3) := by decide +kernel
theorem dX3_readStatement_22 : decode cX3_readStatement 22 = .ok (.ldc 85, 2) := by decide +kernel
theorem dX3_readStatement_24 : decode cX3_readStatement 24 = .ok (.invokevirtual 55, 3) := by decide +kernel
theorem dX3_readStatement_27 : decode cX3_readStatement 27 = .ok (.ifCond .eq 9, 3) := by decide +kernel
theorem dX3_readStatement_30 : decode cX3_readStatement 30 = .ok (.aload_n 0, 1) := by decide +kernel
theorem dX3_readStatement_31 : decode cX3_readStatement 31 = .ok (.aload_n 1, 1) := by decide +kernel
theorem dX3_readStatement_32 : decode cX3_readStatement 32 = .ok (.invokevirtual 87, 3) := by decide +kernel
theorem dX3_readStatement_35 : decode cX3_readStatement 35 = .ok (.ireturn, 1) := by decide +kernel
theorem dX3_readStatement_36 : decode cX3_readStatement 36 = .ok (.aload_n 0, 1) := by decide +kernel
theorem dX3_readStatement_37 : decode cX3_readStatement 37 = .ok (.getfield 31, 3) := by decide +kernel
theorem dX3_readStatement_40 : decode cX3_readStatement 40 = .ok (.ldc 90, 2) := by decide +kernel
theorem dX3_readStatement_42 : decode cX3_readStatement 42 = .ok (.invokevirtual 55, 3) := by decide +kernel
theorem dX3_readStatement_45 : decode cX3_readStatement 45 = .ok (.ifCond .eq 9, 3) := by decide +kernel
theorem dX3_readStatement_48 : decode cX3_readStatement 48 = .ok (.aload_n 0, 1) := by decide +kernel
theorem dX3_readStatement_49 : decode cX3_readStatement 49 = .ok (.aload_n 1, 1) := by decide +kernel
theorem dX3_readStatement_50 : decode cX3_readStatement 50 = .ok (.invokevirtual 92, 3) := by decide +kernel
theorem dX3_readStatement_53 : decode cX3_readStatement 53 = .ok (.ireturn, 1) := by decide +kernel
theorem dX3_readStatement_54 : decode cX3_readStatement 54 = .ok (.aload_n 0, 1) := by decide +kernel
theorem dX3_readStatement_55 : decode cX3_readStatement 55 = .ok (.getfield 31, 3) := by decide +kernel
theorem dX3_readStatement_58 : decode cX3_readStatement 58 = .ok (.ldc 95, 2) := by decide +kernel
theorem dX3_readStatement_60 : decode cX3_readStatement 60 = .ok (.invokevirtual 55, 3) := by decide +kernel
theorem dX3_readStatement_63 : decode cX3_readStatement 63 = .ok (.ifCond .eq 10, 3) := by decide +kernel
theorem dX3_readStatement_66 : decode cX3_readStatement 66 = .ok (.aload_n 0, 1) := by decide +kernel
theorem dX3_readStatement_67 : decode cX3_readStatement 67 = .ok (.aload_n 1, 1) := by decide +kernel
theorem dX3_readStatement_68 : decode cX3_readStatement 68 = .ok (.iconst 0, 1) := by decide +kernel
theorem dX3_readStatement_69 : decode cX3_readStatement 69 = .ok (.invokevirtual 97, 3) := by decide +kernel
theorem dX3_readStatement_72 : decode cX3_readStatement 72 = .ok (.ireturn, 1) := by decide +kernel
theorem dX3_readStatement_73 : decode cX3_readStatement 73 = .ok (.aload_n 0, 1) := by decide +kernel
theorem dX3_readStatement_74 : decode cX3_readStatement 74 = .ok (.getfield 31, 3) := by decide +kernel
theorem dX3_readStatement_77 : decode cX3_readStatement 77 = .ok (.ldc 101, 2) := by decide +kernel
theorem dX3_readStatement_79 : decode cX3_readStatement 79 = .ok (.invokevirtual 55, 3) := by decide +kernel
theorem dX3_readStatement_82 : decode cX3_readStatement 82 = .ok (.ifCond .eq 10, 3) := by decide +kernel
theorem dX3_readStatement_85 : decode cX3_readStatement 85 = .ok (.aload_n 0, 1) := by decide +kernel
theorem dX3_readStatement_86 : decode cX3_readStatement 86 = .ok (.aload_n 1, 1) := by decide +kernel
theorem dX3_readStatement_87 : decode cX3_readStatement 87 = .ok (.iconst 1, 1) := by decide +kernel
theorem dX3_readStatement_88 : decode cX3_readStatement 88 = .ok (.invokevirtual 97, 3) := by decide +kernel
theorem dX3_readStatement_91 : decode cX3_readStatement 91 = .ok (.ireturn, 1) := by decide +kernel
theorem dX3_readStatement_92 : decode cX3_readStatement 92 = .ok (.aload_n 0, 1) := by decide +kernel
theorem dX3_readStatement_93 : decode cX3_readStatement 93 = .ok (.getfield 31, 3) := by decide +kernel
theorem dX3_readStatement_96 : decode cX3_readStatement 96 = .ok (.ldc 103, 2) := by decide +kernel
theorem dX3_readStatement_98 : decode cX3_readStatement 98 = .ok (.invokevirtual 55, 3) := by decide +kernel
theorem dX3_readStatement_101 : decode cX3_readStatement 101 = .ok (.ifCond .eq 10, 3) := by decide +kernel
theorem dX3_readStatement_104 : decode cX3_readStatement 104 = .ok (.aload_n 0, 1) := by decide +kernel
theorem dX3_readStatement_105 : decode cX3_readStatement 105 = .ok (.aload_n 1, 1) := by decide +kernel
theorem dX3_readStatement_106 : decode cX3_readStatement 106 = .ok (.iconst 2, 1) := by decide +kernel
theorem dX3_readStatement_107 : decode cX3_readStatement 107 = .ok (.invokevirtual 97, 3) := by decide +kernel
theorem dX3_readStatement_110 : decode cX3_readStatement 110 = .ok (.ireturn, 1) := by decide +kernel
theorem dX3_readStatement_111 : decode cX3_readStatement 111 = .ok (.aload_n 0, 1) := by decide +kernel
theorem dX3_readStatement_112 : decode cX3_readStatement 112 = .ok (.iconst 1, 1) := by decide +kernel
theorem dX3_readStatement_113 : decode cX3_readStatement 113 = .ok (.invokevirtual 59, 3) := by decide +kernel
theorem dX3_readStatement_116 : decode cX3_readStatement 116 = .ok (.ireturn, 1) := by decide +kernel
theorem dX3_readFlaws_0 : decode cX3_readFlaws 0 = .ok (.iconst 1, 1) := by decide +kernel
theorem dX3_readFlaws_1 : decode cX3_readFlaws 1 = .ok (.istore_n 2, 1) := by decide +kernel
theorem dX3_readFlaws_2 : decode cX3_readFlaws 2 = .ok (.iconst 0, 1) := by decide +kernel
theorem dX3_readFlaws_3 : decode cX3_readFlaws 3 = .ok (.istore_n 3, 1) := by decide +kernel
theorem dX3_readFlaws_4 : decode cX3_readFlaws 4 = .ok (.iload_n 3, 1) := by decide +kernel
theorem dX3_readFlaws_5 : decode cX3_readFlaws 5 = .ok (.sipush 500, 3) := by decide +kernel
theorem dX3_readFlaws_8 : decode cX3_readFlaws 8 = .ok (.if_icmp .ge 40, 3) := by decide +kernel
theorem dX3_readFlaws_11 : decode cX3_readFlaws 11 = .ok (.iload_n 2, 1) := by decide +kernel
theorem dX3_readFlaws_12 : decode cX3_readFlaws 12 = .ok (.ifCond .eq 36, 3) := by decide +kernel
theorem dX3_readFlaws_15 : decode cX3_readFlaws 15 = .ok (.aload_n 0, 1) := by decide +kernel
theorem dX3_readFlaws_16 : decode cX3_readFlaws 16 = .ok (.getfield 31, 3) := by decide +kernel
theorem dX3_readFlaws_19 : decode cX3_readFlaws 19 = .ok (.invokevirtual 63, 3) := by decide +kernel
theorem dX3_readFlaws_22 : decode cX3_readFlaws 22 = .ok (.aload_n 0, 1) := by decide +kernel
theorem dX3_readFlaws_23 : decode cX3_readFlaws 23 = .ok (.aload_n 1, 1) := by decide +kernel
theorem dX3_readFlaws_24 : decode cX3_readFlaws 24 = .ok (.invokevirtual 105, 3) := by decide +kernel
theorem dX3_readFlaws_27 : decode cX3_readFlaws 27 = .ok (.ifCond .ne 5, 3) := by decide +kernel
theorem dX3_readFlaws_30 : decode cX3_readFlaws 30 = .ok (.iconst 0, 1) := by decide +kernel
theorem dX3_readFlaws_31 : decode cX3_readFlaws 31 = .ok (.ireturn, 1) := by decide +kernel
theorem dX3_readFlaws_32 : decode cX3_readFlaws 32 = .ok (.aload_n 0, 1) := by decide +kernel
theorem dX3_readFlaws_33 : decode cX3_readFlaws 33 = .ok (.getfield 31, 3) := by decide +kernel
theorem dX3_readFlaws_36 : decode cX3_readFlaws 36 = .ok (.ldc 108, 2) := by decide +kernel
theorem dX3_readFlaws_38 : decode cX3_readFlaws 38 = .ok (.invokevirtual 55, 3) := by decide +kernel
theorem dX3_readFlaws_41 : decode cX3_readFlaws 41 = .ok (.istore_n 2, 1) := by decide +kernel
theorem dX3_readFlaws_42 : decode cX3_readFlaws 42 = .ok (.iinc 3 1, 3) := by decide +kernel
theorem dX3_readFlaws_45 : decode cX3_readFlaws 45 = .ok (.goto (-41), 3) := by decide +kernel
theorem dX3_readFlaws_48 : decode cX3_readFlaws 48 = .ok (.aload_n 0, 1) := by decide +kernel
theorem dX3_readFlaws_49 : decode cX3_readFlaws 49 = .ok (.invokevirtual 76, 3) := by decide +kernel
theorem dX3_readFlaws_52 : decode cX3_readFlaws 52 = .ok (.ireturn, 1) := by decide +kernel
theorem dX3_readFlaw_0 : decode cX3_readFlaw 0 = .ok (.aload_n 0, 1) := by decide +kernel
theorem dX3_readFlaw_1 : decode cX3_readFlaw 1 = .ok (.iconst 0, 1) := by decide +kernel
theorem dX3_readFlaw_2 : decode cX3_readFlaw 2 = .ok (.aload_n 1, 1) := by decide +kernel
theorem dX3_readFlaw_3 : decode cX3_readFlaw 3 = .ok (.getfield 110, 3) := by decide +kernel
theorem dX3_readFlaw_6 : decode cX3_readFlaw 6 = .ok (.iconst 1, 1) := by decide +kernel
theorem dX3_readFlaw_7 : decode cX3_readFlaw 7 = .ok (.isub, 1) := by decide +kernel
theorem dX3_readFlaw_8 : decode cX3_readFlaw 8 = .ok (.invokevirtual 113, 3) := by decide +kernel
theorem dX3_readFlaw_11 : decode cX3_readFlaw 11 = .ok (.ifCond .ne 5, 3) := by decide +kernel
theorem dX3_readFlaw_14 : decode cX3_readFlaw 14 = .ok (.iconst 0, 1) := by decide +kernel
theorem dX3_readFlaw_15 : decode cX3_readFlaw 15 = .ok (.ireturn, 1) := by decide +kernel
theorem dX3_readFlaw_16 : decode cX3_readFlaw 16 = .ok (.aload_n 0, 1) := by decide +kernel
theorem dX3_readFlaw_17 : decode cX3_readFlaw 17 = .ok (.getfield 21, 3) := by decide +kernel
theorem dX3_readFlaw_20 : decode cX3_readFlaw 20 = .ok (.bipush 40, 2) := by decide +kernel
theorem dX3_readFlaw_22 : decode cX3_readFlaw 22 = .ok (.if_icmp .lt 9, 3) := by decide +kernel
theorem dX3_readFlaw_25 : decode cX3_readFlaw 25 = .ok (.aload_n 0, 1) := by decide +kernel
theorem dX3_readFlaw_26 : decode cX3_readFlaw 26 = .ok (.iconst 5, 1) := by decide +kernel
theorem dX3_readFlaw_27 : decode cX3_readFlaw 27 = .ok (.invokevirtual 59, 3) := by decide +kernel
theorem dX3_readFlaw_30 : decode cX3_readFlaw 30 = .ok (.ireturn, 1) := by decide +kernel
theorem dX3_readFlaw_31 : decode cX3_readFlaw 31 = .ok (.aload_n 0, 1) := by decide +kernel
theorem dX3_readFlaw_32 : decode cX3_readFlaw 32 = .ok (.getfield 18, 3) := by decide +kernel
theorem dX3_readFlaw_35 : decode cX3_readFlaw 35 = .ok (.istore_n 2, 1) := by decide +kernel
theorem dX3_readFlaw_36 : decode cX3_readFlaw 36 = .ok (.aload_n 0, 1) := by decide +kernel
theorem dX3_readFlaw_37 : decode cX3_readFlaw 37 = .ok (.getfield 31, 3) := by decide +kernel
theorem dX3_readFlaw_40 : decode cX3_readFlaw 40 = .ok (.invokevirtual 63, 3) := by decide +kernel
theorem dX3_readFlaw_43 : decode cX3_readFlaw 43 = .ok (.aload_n 0, 1) := by decide +kernel
theorem dX3_readFlaw_44 : decode cX3_readFlaw 44 = .ok (.iconst 0, 1) := by decide +kernel
theorem dX3_readFlaw_45 : decode cX3_readFlaw 45 = .ok (.aload_n 1, 1) := by decide +kernel
theorem dX3_readFlaw_46 : decode cX3_readFlaw 46 = .ok (.getfield 116, 3) := by decide +kernel
theorem dX3_readFlaw_49 : decode cX3_readFlaw 49 = .ok (.iconst 1, 1) := by decide +kernel
theorem dX3_readFlaw_50 : decode cX3_readFlaw 50 = .ok (.isub, 1) := by decide +kernel
theorem dX3_readFlaw_51 : decode cX3_readFlaw 51 = .ok (.invokevirtual 113, 3) := by decide +kernel
theorem dX3_readFlaw_54 : decode cX3_readFlaw 54 = .ok (.ifCond .ne 5, 3) := by decide +kernel
theorem dX3_readFlaw_57 : decode cX3_readFlaw 57 = .ok (.iconst 0, 1) := by decide +kernel
theorem dX3_readFlaw_58 : decode cX3_readFlaw 58 = .ok (.ireturn, 1) := by decide +kernel
theorem dX3_readFlaw_59 : decode cX3_readFlaw 59 = .ok (.aload_n 1, 1) := by decide +kernel
theorem dX3_readFlaw_60 : decode cX3_readFlaw 60 = .ok (.iload_n 2, 1) := by decide +kernel
theorem dX3_readFlaw_61 : decode cX3_readFlaw 61 = .ok (.aload_n 0, 1) := by decide +kernel
theorem dX3_readFlaw_62 : decode cX3_readFlaw 62 = .ok (.getfield 18, 3) := by decide +kernel
theorem dX3_readFlaw_65 : decode cX3_readFlaw 65 = .ok (.invokevirtual 119, 3) := by decide +kernel
theorem dX3_readFlaw_68 : decode cX3_readFlaw 68 = .ok (.ifCond .eq 9, 3) := by decide +kernel
theorem dX3_readFlaw_71 : decode cX3_readFlaw 71 = .ok (.aload_n 0, 1) := by decide +kernel
theorem dX3_readFlaw_72 : decode cX3_readFlaw 72 = .ok (.iconst 3, 1) := by decide +kernel
theorem dX3_readFlaw_73 : decode cX3_readFlaw 73 = .ok (.invokevirtual 59, 3) := by decide +kernel
theorem dX3_readFlaw_76 : decode cX3_readFlaw 76 = .ok (.ireturn, 1) := by decide +kernel
theorem dX3_readFlaw_77 : decode cX3_readFlaw 77 = .ok (.aload_n 1, 1) := by decide +kernel
theorem dX3_readFlaw_78 : decode cX3_readFlaw 78 = .ok (.iload_n 2, 1) := by decide +kernel
theorem dX3_readFlaw_79 : decode cX3_readFlaw 79 = .ok (.aload_n 0, 1) := by decide +kernel
theorem dX3_readFlaw_80 : decode cX3_readFlaw 80 = .ok (.getfield 18, 3) := by decide +kernel
theorem dX3_readFlaw_83 : decode cX3_readFlaw 83 = .ok (.iconst 1, 1) := by decide +kernel
theorem dX3_readFlaw_84 : decode cX3_readFlaw 84 = .ok (.invokevirtual 122, 3) := by decide +kernel
theorem dX3_readFlaw_87 : decode cX3_readFlaw 87 = .ok (.aload_n 0, 1) := by decide +kernel
theorem dX3_readFlaw_88 : decode cX3_readFlaw 88 = .ok (.dup, 1) := by decide +kernel
theorem dX3_readFlaw_89 : decode cX3_readFlaw 89 = .ok (.getfield 21, 3) := by decide +kernel
theorem dX3_readFlaw_92 : decode cX3_readFlaw 92 = .ok (.iconst 1, 1) := by decide +kernel
theorem dX3_readFlaw_93 : decode cX3_readFlaw 93 = .ok (.iadd, 1) := by decide +kernel
theorem dX3_readFlaw_94 : decode cX3_readFlaw 94 = .ok (.putfield 21, 3) := by decide +kernel
theorem dX3_readFlaw_97 : decode cX3_readFlaw 97 = .ok (.aload_n 0, 1) := by decide +kernel
theorem dX3_readFlaw_98 : decode cX3_readFlaw 98 = .ok (.getfield 31, 3) := by decide +kernel
theorem dX3_readFlaw_101 : decode cX3_readFlaw 101 = .ok (.invokevirtual 63, 3) := by decide +kernel
theorem dX3_readFlaw_104 : decode cX3_readFlaw 104 = .ok (.iconst 1, 1) := by decide +kernel
theorem dX3_readFlaw_105 : decode cX3_readFlaw 105 = .ok (.ireturn, 1) := by decide +kernel
theorem dX3_readGap_0 : decode cX3_readGap 0 = .ok (.aload_n 0, 1) := by decide +kernel
theorem dX3_readGap_1 : decode cX3_readGap 1 = .ok (.getfield 24, 3) := by decide +kernel
theorem dX3_readGap_4 : decode cX3_readGap 4 = .ok (.ifCond .eq 9, 3) := by decide +kernel
theorem dX3_readGap_7 : decode cX3_readGap 7 = .ok (.aload_n 0, 1) := by decide +kernel
theorem dX3_readGap_8 : decode cX3_readGap 8 = .ok (.iconst 3, 1) := by decide +kernel
theorem dX3_readGap_9 : decode cX3_readGap 9 = .ok (.invokevirtual 59, 3) := by decide +kernel
theorem dX3_readGap_12 : decode cX3_readGap 12 = .ok (.ireturn, 1) := by decide +kernel
theorem dX3_readGap_13 : decode cX3_readGap 13 = .ok (.aload_n 0, 1) := by decide +kernel
theorem dX3_readGap_14 : decode cX3_readGap 14 = .ok (.iconst 1, 1) := by decide +kernel
theorem dX3_readGap_15 : decode cX3_readGap 15 = .ok (.putfield 24, 3) := by decide +kernel
theorem dX3_readGap_18 : decode cX3_readGap 18 = .ok (.aload_n 0, 1) := by decide +kernel
theorem dX3_readGap_19 : decode cX3_readGap 19 = .ok (.getfield 31, 3) := by decide +kernel
theorem dX3_readGap_22 : decode cX3_readGap 22 = .ok (.invokevirtual 63, 3) := by decide +kernel
theorem dX3_readGap_25 : decode cX3_readGap 25 = .ok (.aload_n 0, 1) := by decide +kernel
theorem dX3_readGap_26 : decode cX3_readGap 26 = .ok (.iconst 0, 1) := by decide +kernel
theorem dX3_readGap_27 : decode cX3_readGap 27 = .ok (.iconst 3, 1) := by decide +kernel
theorem dX3_readGap_28 : decode cX3_readGap 28 = .ok (.invokevirtual 66, 3) := by decide +kernel
theorem dX3_readGap_31 : decode cX3_readGap 31 = .ok (.ifCond .ne 5, 3) := by decide +kernel
theorem dX3_readGap_34 : decode cX3_readGap 34 = .ok (.iconst 0, 1) := by decide +kernel
theorem dX3_readGap_35 : decode cX3_readGap 35 = .ok (.ireturn, 1) := by decide +kernel
theorem dX3_readGap_36 : decode cX3_readGap 36 = .ok (.aload_n 1, 1) := by decide +kernel
theorem dX3_readGap_37 : decode cX3_readGap 37 = .ok (.aload_n 0, 1) := by decide +kernel
theorem dX3_readGap_38 : decode cX3_readGap 38 = .ok (.getfield 18, 3) := by decide +kernel
theorem dX3_readGap_41 : decode cX3_readGap 41 = .ok (.putfield 126, 3) := by decide +kernel
theorem dX3_readGap_44 : decode cX3_readGap 44 = .ok (.aload_n 0, 1) := by decide +kernel
theorem dX3_readGap_45 : decode cX3_readGap 45 = .ok (.invokevirtual 76, 3) := by decide +kernel
theorem dX3_readGap_48 : decode cX3_readGap 48 = .ok (.ireturn, 1) := by decide +kernel
theorem dX3_readChisel_0 : decode cX3_readChisel 0 = .ok (.aload_n 0, 1) := by decide +kernel
theorem dX3_readChisel_1 : decode cX3_readChisel 1 = .ok (.getfield 28, 3) := by decide +kernel
theorem dX3_readChisel_4 : decode cX3_readChisel 4 = .ok (.ifCond .eq 9, 3) := by decide +kernel
theorem dX3_readChisel_7 : decode cX3_readChisel 7 = .ok (.aload_n 0, 1) := by decide +kernel
theorem dX3_readChisel_8 : decode cX3_readChisel 8 = .ok (.iconst 3, 1) := by decide +kernel
theorem dX3_readChisel_9 : decode cX3_readChisel 9 = .ok (.invokevirtual 59, 3) := by decide +kernel
theorem dX3_readChisel_12 : decode cX3_readChisel 12 = .ok (.ireturn, 1) := by decide +kernel
theorem dX3_readChisel_13 : decode cX3_readChisel 13 = .ok (.aload_n 0, 1) := by decide +kernel
theorem dX3_readChisel_14 : decode cX3_readChisel 14 = .ok (.iconst 1, 1) := by decide +kernel
theorem dX3_readChisel_15 : decode cX3_readChisel 15 = .ok (.putfield 28, 3) := by decide +kernel
theorem dX3_readChisel_18 : decode cX3_readChisel 18 = .ok (.aload_n 0, 1) := by decide +kernel
theorem dX3_readChisel_19 : decode cX3_readChisel 19 = .ok (.getfield 31, 3) := by decide +kernel
theorem dX3_readChisel_22 : decode cX3_readChisel 22 = .ok (.invokevirtual 63, 3) := by decide +kernel
theorem dX3_readChisel_25 : decode cX3_readChisel 25 = .ok (.aload_n 0, 1) := by decide +kernel
theorem dX3_readChisel_26 : decode cX3_readChisel 26 = .ok (.iconst 1, 1) := by decide +kernel
theorem dX3_readChisel_27 : decode cX3_readChisel 27 = .ok (.sipush 999, 3) := by decide +kernel
theorem dX3_readChisel_30 : decode cX3_readChisel 30 = .ok (.invokevirtual 66, 3) := by decide +kernel
theorem dX3_readChisel_33 : decode cX3_readChisel 33 = .ok (.ifCond .ne 5, 3) := by decide +kernel
theorem dX3_readChisel_36 : decode cX3_readChisel 36 = .ok (.iconst 0, 1) := by decide +kernel
theorem dX3_readChisel_37 : decode cX3_readChisel 37 = .ok (.ireturn, 1) := by decide +kernel
theorem dX3_readChisel_38 : decode cX3_readChisel 38 = .ok (.aload_n 0, 1) := by decide +kernel
theorem dX3_readChisel_39 : decode cX3_readChisel 39 = .ok (.getfield 18, 3) := by decide +kernel
theorem dX3_readChisel_42 : decode cX3_readChisel 42 = .ok (.istore_n 2, 1) := by decide +kernel
theorem dX3_readChisel_43 : decode cX3_readChisel 43 = .ok (.aload_n 0, 1) := by decide +kernel
theorem dX3_readChisel_44 : decode cX3_readChisel 44 = .ok (.iconst 0, 1) := by decide +kernel
theorem dX3_readChisel_45 : decode cX3_readChisel 45 = .ok (.bipush 99, 2) := by decide +kernel
theorem dX3_readChisel_47 : decode cX3_readChisel 47 = .ok (.invokevirtual 66, 3) := by decide +kernel
theorem dX3_readChisel_50 : decode cX3_readChisel 50 = .ok (.ifCond .ne 5, 3) := by decide +kernel
theorem dX3_readChisel_53 : decode cX3_readChisel 53 = .ok (.iconst 0, 1) := by decide +kernel
theorem dX3_readChisel_54 : decode cX3_readChisel 54 = .ok (.ireturn, 1) := by decide +kernel
theorem dX3_readChisel_55 : decode cX3_readChisel 55 = .ok (.aload_n 1, 1) := by decide +kernel
theorem dX3_readChisel_56 : decode cX3_readChisel 56 = .ok (.getfield 128, 3) := by decide +kernel
theorem dX3_readChisel_59 : decode cX3_readChisel 59 = .ok (.iload_n 2, 1) := by decide +kernel
theorem dX3_readChisel_60 : decode cX3_readChisel 60 = .ok (.aload_n 0, 1) := by decide +kernel
theorem dX3_readChisel_61 : decode cX3_readChisel 61 = .ok (.getfield 18, 3) := by decide +kernel
theorem dX3_readChisel_64 : decode cX3_readChisel 64 = .ok (.invokevirtual 131, 3) := by decide +kernel
theorem dX3_readChisel_67 : decode cX3_readChisel 67 = .ok (.aload_n 0, 1) := by decide +kernel
theorem dX3_readChisel_68 : decode cX3_readChisel 68 = .ok (.invokevirtual 76, 3) := by decide +kernel
theorem dX3_readChisel_71 : decode cX3_readChisel 71 = .ok (.ireturn, 1) := by decide +kernel
theorem dX3_readPart_0 : decode cX3_readPart 0 = .ok (.aload_n 1, 1) := by decide +kernel
theorem dX3_readPart_1 : decode cX3_readPart 1 = .ok (.getfield 136, 3) := by decide +kernel
theorem dX3_readPart_4 : decode cX3_readPart 4 = .ok (.bipush 10, 2) := by decide +kernel
theorem dX3_readPart_6 : decode cX3_readPart 6 = .ok (.if_icmp .lt 9, 3) := by decide +kernel
theorem dX3_readPart_9 : decode cX3_readPart 9 = .ok (.aload_n 0, 1) := by decide +kernel
theorem dX3_readPart_10 : decode cX3_readPart 10 = .ok (.iconst 5, 1) := by decide +kernel
theorem dX3_readPart_11 : decode cX3_readPart 11 = .ok (.invokevirtual 59, 3) := by decide +kernel
theorem dX3_readPart_14 : decode cX3_readPart 14 = .ok (.ireturn, 1) := by decide +kernel
theorem dX3_readPart_15 : decode cX3_readPart 15 = .ok (.aload_n 1, 1) := by decide +kernel
theorem dX3_readPart_16 : decode cX3_readPart 16 = .ok (.iload_n 2, 1) := by decide +kernel
theorem dX3_readPart_17 : decode cX3_readPart 17 = .ok (.invokevirtual 139, 3) := by decide +kernel
theorem dX3_readPart_20 : decode cX3_readPart 20 = .ok (.aload_n 0, 1) := by decide +kernel
theorem dX3_readPart_21 : decode cX3_readPart 21 = .ok (.getfield 31, 3) := by decide +kernel
theorem dX3_readPart_24 : decode cX3_readPart 24 = .ok (.invokevirtual 63, 3) := by decide +kernel
theorem dX3_readPart_27 : decode cX3_readPart 27 = .ok (.aload_n 0, 1) := by decide +kernel
theorem dX3_readPart_28 : decode cX3_readPart 28 = .ok (.aload_n 1, 1) := by decide +kernel
theorem dX3_readPart_29 : decode cX3_readPart 29 = .ok (.invokevirtual 143, 3) := by decide +kernel
theorem dX3_readPart_32 : decode cX3_readPart 32 = .ok (.istore_n 3, 1) := by decide +kernel
theorem dX3_readPart_33 : decode cX3_readPart 33 = .ok (.iconst 0, 1) := by decide +kernel
theorem dX3_readPart_34 : decode cX3_readPart 34 = .ok (.istore 4, 2) := by decide +kernel
theorem dX3_readPart_36 : decode cX3_readPart 36 = .ok (.iload 4, 2) := by decide +kernel
theorem dX3_readPart_38 : decode cX3_readPart 38 = .ok (.sipush 500, 3) := by decide +kernel
theorem dX3_readPart_41 : decode cX3_readPart 41 = .ok (.if_icmp .ge 31, 3) := by decide +kernel
theorem dX3_readPart_44 : decode cX3_readPart 44 = .ok (.iload_n 3, 1) := by decide +kernel
theorem dX3_readPart_45 : decode cX3_readPart 45 = .ok (.ifCond .eq 27, 3) := by decide +kernel
theorem dX3_readPart_48 : decode cX3_readPart 48 = .ok (.aload_n 0, 1) := by decide +kernel
theorem dX3_readPart_49 : decode cX3_readPart 49 = .ok (.getfield 31, 3) := by decide +kernel
theorem dX3_readPart_52 : decode cX3_readPart 52 = .ok (.ldc 146, 2) := by decide +kernel
theorem dX3_readPart_54 : decode cX3_readPart 54 = .ok (.invokevirtual 55, 3) := by decide +kernel
theorem dX3_readPart_57 : decode cX3_readPart 57 = .ok (.ifCond .ne 15, 3) := by decide +kernel
theorem dX3_readPart_60 : decode cX3_readPart 60 = .ok (.aload_n 0, 1) := by decide +kernel
theorem dX3_readPart_61 : decode cX3_readPart 61 = .ok (.aload_n 1, 1) := by decide +kernel
theorem dX3_readPart_62 : decode cX3_readPart 62 = .ok (.invokevirtual 143, 3) := by decide +kernel
theorem dX3_readPart_65 : decode cX3_readPart 65 = .ok (.istore_n 3, 1) := by decide +kernel
theorem dX3_readPart_66 : decode cX3_readPart 66 = .ok (.iinc 4 1, 3) := by decide +kernel
theorem dX3_readPart_69 : decode cX3_readPart 69 = .ok (.goto (-33), 3) := by decide +kernel
theorem dX3_readPart_72 : decode cX3_readPart 72 = .ok (.iload_n 3, 1) := by decide +kernel
theorem dX3_readPart_73 : decode cX3_readPart 73 = .ok (.ifCond .eq 14, 3) := by decide +kernel
theorem dX3_readPart_76 : decode cX3_readPart 76 = .ok (.aload_n 0, 1) := by decide +kernel
theorem dX3_readPart_77 : decode cX3_readPart 77 = .ok (.invokevirtual 76, 3) := by decide +kernel
theorem dX3_readPart_80 : decode cX3_readPart 80 = .ok (.ifCond .eq 7, 3) := by decide +kernel
theorem dX3_readPart_83 : decode cX3_readPart 83 = .ok (.iconst 1, 1) := by decide +kernel
theorem dX3_readPart_84 : decode cX3_readPart 84 = .ok (.goto 4, 3) := by decide +kernel
theorem dX3_readPart_87 : decode cX3_readPart 87 = .ok (.iconst 0, 1) := by decide +kernel
theorem dX3_readPart_88 : decode cX3_readPart 88 = .ok (.ireturn, 1) := by decide +kernel
theorem dX3_readWord_0 : decode cX3_readWord 0 = .ok (.aload_n 0, 1) := by decide +kernel
theorem dX3_readWord_1 : decode cX3_readWord 1 = .ok (.getfield 31, 3) := by decide +kernel
theorem dX3_readWord_4 : decode cX3_readWord 4 = .ok (.invokevirtual 148, 3) := by decide +kernel
theorem dX3_readWord_7 : decode cX3_readWord 7 = .ok (.ifCond .ne 9, 3) := by decide +kernel
theorem dX3_readWord_10 : decode cX3_readWord 10 = .ok (.aload_n 0, 1) := by decide +kernel
theorem dX3_readWord_11 : decode cX3_readWord 11 = .ok (.iconst 1, 1) := by decide +kernel
theorem dX3_readWord_12 : decode cX3_readWord 12 = .ok (.invokevirtual 59, 3) := by decide +kernel
theorem dX3_readWord_15 : decode cX3_readWord 15 = .ok (.ireturn, 1) := by decide +kernel
theorem dX3_readWord_16 : decode cX3_readWord 16 = .ok (.aload_n 0, 1) := by decide +kernel
theorem dX3_readWord_17 : decode cX3_readWord 17 = .ok (.getfield 31, 3) := by decide +kernel
theorem dX3_readWord_20 : decode cX3_readWord 20 = .ok (.getfield 151, 3) := by decide +kernel
theorem dX3_readWord_23 : decode cX3_readWord 23 = .ok (.aload_n 1, 1) := by decide +kernel
theorem dX3_readWord_24 : decode cX3_readWord 24 = .ok (.getfield 110, 3) := by decide +kernel
theorem dX3_readWord_27 : decode cX3_readWord 27 = .ok (.if_icmp .le 9, 3) := by decide +kernel
theorem dX3_readWord_30 : decode cX3_readWord 30 = .ok (.aload_n 0, 1) := by decide +kernel
theorem dX3_readWord_31 : decode cX3_readWord 31 = .ok (.iconst 4, 1) := by decide +kernel
theorem dX3_readWord_32 : decode cX3_readWord 32 = .ok (.invokevirtual 59, 3) := by decide +kernel
theorem dX3_readWord_35 : decode cX3_readWord 35 = .ok (.ireturn, 1) := by decide +kernel
theorem dX3_readWord_36 : decode cX3_readWord 36 = .ok (.aload_n 1, 1) := by decide +kernel
theorem dX3_readWord_37 : decode cX3_readWord 37 = .ok (.getfield 154, 3) := by decide +kernel
theorem dX3_readWord_40 : decode cX3_readWord 40 = .ok (.bipush 60, 2) := by decide +kernel
theorem dX3_readWord_42 : decode cX3_readWord 42 = .ok (.if_icmp .lt 9, 3) := by decide +kernel
theorem dX3_readWord_45 : decode cX3_readWord 45 = .ok (.aload_n 0, 1) := by decide +kernel
theorem dX3_readWord_46 : decode cX3_readWord 46 = .ok (.iconst 5, 1) := by decide +kernel
theorem dX3_readWord_47 : decode cX3_readWord 47 = .ok (.invokevirtual 59, 3) := by decide +kernel
theorem dX3_readWord_50 : decode cX3_readWord 50 = .ok (.ireturn, 1) := by decide +kernel
theorem dX3_readWord_51 : decode cX3_readWord 51 = .ok (.aload_n 1, 1) := by decide +kernel
theorem dX3_readWord_52 : decode cX3_readWord 52 = .ok (.aload_n 0, 1) := by decide +kernel
theorem dX3_readWord_53 : decode cX3_readWord 53 = .ok (.getfield 31, 3) := by decide +kernel
theorem dX3_readWord_56 : decode cX3_readWord 56 = .ok (.getfield 157, 3) := by decide +kernel
theorem dX3_readWord_59 : decode cX3_readWord 59 = .ok (.getfield 161, 3) := by decide +kernel
theorem dX3_readWord_62 : decode cX3_readWord 62 = .ok (.aload_n 0, 1) := by decide +kernel
theorem dX3_readWord_63 : decode cX3_readWord 63 = .ok (.getfield 31, 3) := by decide +kernel
theorem dX3_readWord_66 : decode cX3_readWord 66 = .ok (.getfield 50, 3) := by decide +kernel
theorem dX3_readWord_69 : decode cX3_readWord 69 = .ok (.aload_n 0, 1) := by decide +kernel
theorem dX3_readWord_70 : decode cX3_readWord 70 = .ok (.getfield 31, 3) := by decide +kernel
theorem dX3_readWord_73 : decode cX3_readWord 73 = .ok (.getfield 151, 3) := by decide +kernel
theorem dX3_readWord_76 : decode cX3_readWord 76 = .ok (.invokevirtual 167, 3) := by decide +kernel
theorem dX3_readWord_79 : decode cX3_readWord 79 = .ok (.aload_n 0, 1) := by decide +kernel
theorem dX3_readWord_80 : decode cX3_readWord 80 = .ok (.getfield 31, 3) := by decide +kernel
theorem dX3_readWord_83 : decode cX3_readWord 83 = .ok (.invokevirtual 63, 3) := by decide +kernel
theorem dX3_readWord_86 : decode cX3_readWord 86 = .ok (.iconst 1, 1) := by decide +kernel
theorem dX3_readWord_87 : decode cX3_readWord 87 = .ok (.ireturn, 1) := by decide +kernel
theorem dX3_checkNumber_0 : decode cX3_checkNumber 0 = .ok (.aload_n 0, 1) := by decide +kernel
theorem dX3_checkNumber_1 : decode cX3_checkNumber 1 = .ok (.getfield 31, 3) := by decide +kernel
theorem dX3_checkNumber_4 : decode cX3_checkNumber 4 = .ok (.getfield 44, 3) := by decide +kernel
theorem dX3_checkNumber_7 : decode cX3_checkNumber 7 = .ok (.iconst 2, 1) := by decide +kernel
theorem dX3_checkNumber_8 : decode cX3_checkNumber 8 = .ok (.if_icmp .eq 9, 3) := by decide +kernel
theorem dX3_checkNumber_11 : decode cX3_checkNumber 11 = .ok (.aload_n 0, 1) := by decide +kernel
theorem dX3_checkNumber_12 : decode cX3_checkNumber 12 = .ok (.iconst 1, 1) := by decide +kernel
theorem dX3_checkNumber_13 : decode cX3_checkNumber 13 = .ok (.invokevirtual 59, 3) := by decide +kernel
theorem dX3_checkNumber_16 : decode cX3_checkNumber 16 = .ok (.ireturn, 1) := by decide +kernel
theorem dX3_checkNumber_17 : decode cX3_checkNumber 17 = .ok (.aload_n 0, 1) := by decide +kernel
theorem dX3_checkNumber_18 : decode cX3_checkNumber 18 = .ok (.aload_n 0, 1) := by decide +kernel
theorem dX3_checkNumber_19 : decode cX3_checkNumber 19 = .ok (.getfield 31, 3) := by decide +kernel
theorem dX3_checkNumber_22 : decode cX3_checkNumber 22 = .ok (.invokevirtual 171, 3) := by decide +kernel
theorem dX3_checkNumber_25 : decode cX3_checkNumber 25 = .ok (.putfield 18, 3) := by decide +kernel
theorem dX3_checkNumber_28 : decode cX3_checkNumber 28 = .ok (.aload_n 0, 1) := by decide +kernel
theorem dX3_checkNumber_29 : decode cX3_checkNumber 29 = .ok (.getfield 18, 3) := by decide +kernel
theorem dX3_checkNumber_32 : decode cX3_checkNumber 32 = .ok (.iload_n 1, 1) := by decide +kernel
theorem dX3_checkNumber_33 : decode cX3_checkNumber 33 = .ok (.if_icmp .lt 11, 3) := by decide +kernel
theorem dX3_checkNumber_36 : decode cX3_checkNumber 36 = .ok (.aload_n 0, 1) := by decide +kernel
theorem dX3_checkNumber_37 : decode cX3_checkNumber 37 = .ok (.getfield 18, 3) := by decide +kernel
theorem dX3_checkNumber_40 : decode cX3_checkNumber 40 = .ok (.iload_n 2, 1) := by decide +kernel
theorem dX3_checkNumber_41 : decode cX3_checkNumber 41 = .ok (.if_icmp .le 11, 3) := by decide +kernel
theorem dX3_checkNumber_44 : decode cX3_checkNumber 44 = .ok (.aload_n 0, 1) := by decide +kernel
theorem dX3_checkNumber_45 : decode cX3_checkNumber 45 = .ok (.iconst 2, 1) := by decide +kernel
theorem dX3_checkNumber_46 : decode cX3_checkNumber 46 = .ok (.invokevirtual 59, 3) := by decide +kernel
theorem dX3_checkNumber_49 : decode cX3_checkNumber 49 = .ok (.ifCond .eq 7, 3) := by decide +kernel
theorem dX3_checkNumber_52 : decode cX3_checkNumber 52 = .ok (.iconst 1, 1) := by decide +kernel
theorem dX3_checkNumber_53 : decode cX3_checkNumber 53 = .ok (.goto 4, 3) := by decide +kernel
theorem dX3_checkNumber_56 : decode cX3_checkNumber 56 = .ok (.iconst 0, 1) := by decide +kernel
theorem dX3_checkNumber_57 : decode cX3_checkNumber 57 = .ok (.ireturn, 1) := by decide +kernel
theorem dX3_readNumber_0 : decode cX3_readNumber 0 = .ok (.aload_n 0, 1) := by decide +kernel
theorem dX3_readNumber_1 : decode cX3_readNumber 1 = .ok (.iload_n 1, 1) := by decide +kernel
theorem dX3_readNumber_2 : decode cX3_readNumber 2 = .ok (.iload_n 2, 1) := by decide +kernel
theorem dX3_readNumber_3 : decode cX3_readNumber 3 = .ok (.invokevirtual 113, 3) := by decide +kernel
theorem dX3_readNumber_6 : decode cX3_readNumber 6 = .ok (.ifCond .ne 5, 3) := by decide +kernel
theorem dX3_readNumber_9 : decode cX3_readNumber 9 = .ok (.iconst 0, 1) := by decide +kernel
theorem dX3_readNumber_10 : decode cX3_readNumber 10 = .ok (.ireturn, 1) := by decide +kernel
theorem dX3_readNumber_11 : decode cX3_readNumber 11 = .ok (.aload_n 0, 1) := by decide +kernel
theorem dX3_readNumber_12 : decode cX3_readNumber 12 = .ok (.getfield 31, 3) := by decide +kernel
theorem dX3_readNumber_15 : decode cX3_readNumber 15 = .ok (.invokevirtual 63, 3) := by decide +kernel
theorem dX3_readNumber_18 : decode cX3_readNumber 18 = .ok (.iconst 1, 1) := by decide +kernel
theorem dX3_readNumber_19 : decode cX3_readNumber 19 = .ok (.ireturn, 1) := by decide +kernel
theorem dX3_readEnd_0 : decode cX3_readEnd 0 = .ok (.aload_n 0, 1) := by decide +kernel
theorem dX3_readEnd_1 : decode cX3_readEnd 1 = .ok (.getfield 31, 3) := by decide +kernel
theorem dX3_readEnd_4 : decode cX3_readEnd 4 = .ok (.ldc 146, 2) := by decide +kernel
theorem dX3_readEnd_6 : decode cX3_readEnd 6 = .ok (.invokevirtual 55, 3) := by decide +kernel
theorem dX3_readEnd_9 : decode cX3_readEnd 9 = .ok (.ifCond .ne 9, 3) := by decide +kernel
theorem dX3_readEnd_12 : decode cX3_readEnd 12 = .ok (.aload_n 0, 1) := by decide +kernel
theorem dX3_readEnd_13 : decode cX3_readEnd 13 = .ok (.iconst 1, 1) := by decide +kernel
theorem dX3_readEnd_14 : decode cX3_readEnd 14 = .ok (.invokevirtual 59, 3) := by decide +kernel
theorem dX3_readEnd_17 : decode cX3_readEnd 17 = .ok (.ireturn, 1) := by decide +kernel
theorem dX3_readEnd_18 : decode cX3_readEnd 18 = .ok (.aload_n 0, 1) := by decide +kernel
theorem dX3_readEnd_19 : decode cX3_readEnd 19 = .ok (.getfield 31, 3) := by decide +kernel
theorem dX3_readEnd_22 : decode cX3_readEnd 22 = .ok (.invokevirtual 63, 3) := by decide +kernel
theorem dX3_readEnd_25 : decode cX3_readEnd 25 = .ok (.iconst 1, 1) := by decide +kernel
theorem dX3_readEnd_26 : decode cX3_readEnd 26 = .ok (.ireturn, 1) := by decide +kernel
theorem dX4_init_0 : decode cX4_init 0 = .ok (.aload_n 0, 1) := by decide +kernel
theorem dX4_init_1 : decode cX4_init 1 = .ok (.invokespecial 3, 3) := by decide +kernel
theorem dX4_init_4 : decode cX4_init 4 = .ok (.aload_n 0, 1) := by decide +kernel
theorem dX4_init_5 : decode cX4_init 5 = .ok (.bipush 6, 2) := by decide +kernel
theorem dX4_init_7 : decode cX4_init 7 = .ok (.anewarray 9, 3) := by decide +kernel
theorem dX4_init_10 : decode cX4_init 10 = .ok (.putfield 11, 3) := by decide +kernel
theorem dX4_init_13 : decode cX4_init 13 = .ok (.aload_n 0, 1) := by decide +kernel
theorem dX4_init_14 : decode cX4_init 14 = .ok (.iconst 0, 1) := by decide +kernel
theorem dX4_init_15 : decode cX4_init 15 = .ok (.putfield 17, 3) := by decide +kernel
theorem dX4_init_18 : decode cX4_init 18 = .ok (.return_, 1) := by decide +kernel
theorem dX4_remember_0 : decode cX4_remember 0 = .ok (.aload_n 0, 1) := by decide +kernel
theorem dX4_remember_1 : decode cX4_remember 1 = .ok (.getfield 17, 3) := by decide +kernel
theorem dX4_remember_4 : decode cX4_remember 4 = .ok (.aload_n 0, 1) := by decide +kernel
theorem dX4_remember_5 : decode cX4_remember 5 = .ok (.getfield 11, 3) := by decide +kernel
theorem dX4_remember_8 : decode cX4_remember 8 = .ok (.arraylength, 1) := by decide +kernel
theorem dX4_remember_9 : decode cX4_remember 9 = .ok (.if_icmp .lt 18, 3) := by decide +kernel
theorem dX4_remember_12 : decode cX4_remember 12 = .ok (.aload_n 0, 1) := by decide +kernel
theorem dX4_remember_13 : decode cX4_remember 13 = .ok (.invokevirtual 21, 3) := by decide +kernel
theorem dX4_remember_16 : decode cX4_remember 16 = .ok (.aload_n 0, 1) := by decide +kernel
theorem dX4_remember_17 : decode cX4_remember 17 = .ok (.aload_n 0, 1) := by decide +kernel
theorem dX4_remember_18 : decode cX4_remember 18 = .ok (.getfield 11, 3) := by decide +kernel
theorem dX4_remember_21 : decode cX4_remember 21 = .ok (.arraylength, 1) := by decide +kernel
theorem dX4_remember_22 : decode cX4_remember 22 = .ok (.iconst 1, 1) := by decide +kernel
theorem dX4_remember_23 : decode cX4_remember 23 = .ok (.isub, 1) := by decide +kernel
theorem dX4_remember_24 : decode cX4_remember 24 = .ok (.putfield 17, 3) := by decide +kernel
theorem dX4_remember_27 : decode cX4_remember 27 = .ok (.aload_n 0, 1) := by decide +kernel
theorem dX4_remember_28 : decode cX4_remember 28 = .ok (.getfield 17, 3) := by decide +kernel
theorem dX4_remember_31 : decode cX4_remember 31 = .ok (.ifCond .lt 62, 3) := by decide +kernel
theorem dX4_remember_34 : decode cX4_remember 34 = .ok (.aload_n 0, 1) := by decide +kernel
theorem dX4_remember_35 : decode cX4_remember 35 = .ok (.getfield 17, 3) := by decide +kernel
theorem dX4_remember_38 : decode cX4_remember 38 = .ok (.aload_n 0, 1) := by decide +kernel
theorem dX4_remember_39 : decode cX4_remember 39 = .ok (.getfield 11, 3) := by decide +kernel
theorem dX4_remember_42 : decode cX4_remember 42 = .ok (.arraylength, 1) := by decide +kernel
theorem dX4_remember_43 : decode cX4_remember 43 = .ok (.if_icmp .ge 50, 3) := by decide +kernel
theorem dX4_remember_46 : decode cX4_remember 46 = .ok (.aload_n 0, 1) := by decide +kernel
theorem dX4_remember_47 : decode cX4_remember 47 = .ok (.getfield 11, 3) := by decide +kernel
theorem dX4_remember_50 : decode cX4_remember 50 = .ok (.aload_n 0, 1) := by decide +kernel
theorem dX4_remember_51 : decode cX4_remember 51 = .ok (.getfield 17, 3) := by decide +kernel
theorem dX4_remember_54 : decode cX4_remember 54 = .ok (.aaload, 1) := by decide +kernel
theorem dX4_remember_55 : decode cX4_remember 55 = .ok (.astore_n 2, 1) := by decide +kernel
theorem dX4_remember_56 : decode cX4_remember 56 = .ok (.aload_n 2, 1) := by decide +kernel
theorem dX4_remember_57 : decode cX4_remember 57 = .ok (.ifnonnull 21, 3) := by decide +kernel
theorem dX4_remember_60 : decode cX4_remember 60 = .ok (.new 9, 3) := by decide +kernel
theorem dX4_remember_63 : decode cX4_remember 63 = .ok (.dup, 1) := by decide +kernel
theorem dX4_remember_64 : decode cX4_remember 64 = .ok (.invokespecial 24, 3) := by decide +kernel
theorem dX4_remember_67 : decode cX4_remember 67 = .ok (.astore_n 2, 1) := by decide +kernel
theorem dX4_remember_68 : decode cX4_remember 68 = .ok (.aload_n 0, 1) := by decide +kernel
theorem dX4_remember_69 : decode cX4_remember 69 = .ok (.getfield 11, 3) := by decide +kernel
theorem dX4_remember_72 : decode cX4_remember 72 = .ok (.aload_n 0, 1) := by decide +kernel
theorem dX4_remember_73 : decode cX4_remember 73 = .ok (.getfield 17, 3) := by decide +kernel
theorem dX4_remember_76 : decode cX4_remember 76 = .ok (.aload_n 2, 1) := by decide +kernel
theorem dX4_remember_77 : decode cX4_remember 77 = .ok (.aastore, 1) := by decide +kernel
theorem dX4_remember_78 : decode cX4_remember 78 = .ok (.aload_n 2, 1) := by decide +kernel
theorem dX4_remember_79 : decode cX4_remember 79 = .ok (.aload_n 1, 1) := by decide +kernel
theorem dX4_remember_80 : decode cX4_remember 80 = .ok (.invokevirtual 25, 3) := by decide +kernel
theorem dX4_remember_83 : decode cX4_remember 83 = .ok (.aload_n 0, 1) := by decide +kernel
theorem dX4_remember_84 : decode cX4_remember 84 = .ok (.dup, 1) := by decide +kernel
theorem dX4_remember_85 : decode cX4_remember 85 = .ok (.getfield 17, 3) := by decide +kernel
theorem dX4_remember_88 : decode cX4_remember 88 = .ok (.iconst 1, 1) := by decide +kernel
theorem dX4_remember_89 : decode cX4_remember 89 = .ok (.iadd, 1) := by decide +kernel
theorem dX4_remember_90 : decode cX4_remember 90 = .ok (.putfield 17, 3) := by decide +kernel
theorem dX4_remember_93 : decode cX4_remember 93 = .ok (.return_, 1) := by decide +kernel
theorem dX4_oldestToEnd_0 : decode cX4_oldestToEnd 0 = .ok (.iconst 1, 1) := by decide +kernel
theorem dX4_oldestToEnd_1 : decode cX4_oldestToEnd 1 = .ok (.istore_n 1, 1) := by decide +kernel
theorem dX4_oldestToEnd_2 : decode cX4_oldestToEnd 2 = .ok (.iload_n 1, 1) := by decide +kernel
theorem dX4_oldestToEnd_3 : decode cX4_oldestToEnd 3 = .ok (.aload_n 0, 1) := by decide +kernel
theorem dX4_oldestToEnd_4 : decode cX4_oldestToEnd 4 = .ok (.getfield 11, 3) := by decide +kernel
theorem dX4_oldestToEnd_7 : decode cX4_oldestToEnd 7 = .ok (.arraylength, 1) := by decide +kernel
theorem dX4_oldestToEnd_8 : decode cX4_oldestToEnd 8 = .ok (.if_icmp .ge 39, 3) := by decide +kernel
theorem dX4_oldestToEnd_11 : decode cX4_oldestToEnd 11 = .ok (.aload_n 0, 1) := by decide +kernel
theorem dX4_oldestToEnd_12 : decode cX4_oldestToEnd 12 = .ok (.getfield 11, 3) := by decide +kernel
theorem dX4_oldestToEnd_15 : decode cX4_oldestToEnd 15 = .ok (.iload_n 1, 1) := by decide +kernel
theorem dX4_oldestToEnd_16 : decode cX4_oldestToEnd 16 = .ok (.iconst 1, 1) := by decide +kernel
theorem dX4_oldestToEnd_17 : decode cX4_oldestToEnd 17 = .ok (.isub, 1) := by decide +kernel
theorem dX4_oldestToEnd_18 : decode cX4_oldestToEnd 18 = .ok (.aaload, 1) := by decide +kernel
theorem dX4_oldestToEnd_19 : decode cX4_oldestToEnd 19 = .ok (.astore_n 2, 1) := by decide +kernel
theorem dX4_oldestToEnd_20 : decode cX4_oldestToEnd 20 = .ok (.aload_n 0, 1) := by decide +kernel
theorem dX4_oldestToEnd_21 : decode cX4_oldestToEnd 21 = .ok (.getfield 11, 3) := by decide +kernel
theorem dX4_oldestToEnd_24 : decode cX4_oldestToEnd 24 = .ok (.iload_n 1, 1) := by decide +kernel
theorem dX4_oldestToEnd_25 : decode cX4_oldestToEnd 25 = .ok (.iconst 1, 1) := by decide +kernel
theorem dX4_oldestToEnd_26 : decode cX4_oldestToEnd 26 = .ok (.isub, 1) := by decide +kernel
theorem dX4_oldestToEnd_27 : decode cX4_oldestToEnd 27 = .ok (.aload_n 0, 1) := by decide +kernel
theorem dX4_oldestToEnd_28 : decode cX4_oldestToEnd 28 = .ok (.getfield 11, 3) := by decide +kernel
theorem dX4_oldestToEnd_31 : decode cX4_oldestToEnd 31 = .ok (.iload_n 1, 1) := by decide +kernel
theorem dX4_oldestToEnd_32 : decode cX4_oldestToEnd 32 = .ok (.aaload, 1) := by decide +kernel
theorem dX4_oldestToEnd_33 : decode cX4_oldestToEnd 33 = .ok (.aastore, 1) := by decide +kernel
theorem dX4_oldestToEnd_34 : decode cX4_oldestToEnd 34 = .ok (.aload_n 0, 1) := by decide +kernel
theorem dX4_oldestToEnd_35 : decode cX4_oldestToEnd 35 = .ok (.getfield 11, 3) := by decide +kernel
theorem dX4_oldestToEnd_38 : decode cX4_oldestToEnd 38 = .ok (.iload_n 1, 1) := by decide +kernel
theorem dX4_oldestToEnd_39 : decode cX4_oldestToEnd 39 = .ok (.aload_n 2, 1) := by decide +kernel
theorem dX4_oldestToEnd_40 : decode cX4_oldestToEnd 40 = .ok (.aastore, 1) := by decide +kernel
theorem dX4_oldestToEnd_41 : decode cX4_oldestToEnd 41 = .ok (.iinc 1 1, 3) := by decide +kernel
theorem dX4_oldestToEnd_44 : decode cX4_oldestToEnd 44 = .ok (.goto (-42), 3) := by decide +kernel
theorem dX4_oldestToEnd_47 : decode cX4_oldestToEnd 47 = .ok (.return_, 1) := by decide +kernel
theorem dX5_init_0 : decode cX5_init 0 = .ok (.aload_n 0, 1) := by decide +kernel
theorem dX5_init_1 : decode cX5_init 1 = .ok (.invokespecial 1, 3) := by decide +kernel
theorem dX5_init_4 : decode cX5_init 4 = .ok (.aload_n 0, 1) := by decide +kernel
theorem dX5_init_5 : decode cX5_init 5 = .ok (.iload_n 1, 1) := by decide +kernel
theorem dX5_init_6 : decode cX5_init 6 = .ok (.ifCond .ge 7, 3) := by decide +kernel
theorem dX5_init_9 : decode cX5_init 9 = .ok (.iconst 0, 1) := by decide +kernel
theorem dX5_init_10 : decode cX5_init 10 = .ok (.goto 4, 3) := by decide +kernel
theorem dX5_init_13 : decode cX5_init 13 = .ok (.iload_n 1, 1) := by decide +kernel
theorem dX5_init_14 : decode cX5_init 14 = .ok (.newarray .int, 2) := by decide +kernel
theorem dX5_init_16 : decode cX5_init 16 = .ok (.putfield 7, 3) := by decide +kernel
theorem dX5_init_19 : decode cX5_init 19 = .ok (.return_, 1) := by decide +kernel
theorem dX5_at_0 : decode cX5_at 0 = .ok (.iload_n 1, 1) := by decide +kernel
theorem dX5_at_1 : decode cX5_at 1 = .ok (.ifCond .lt 21, 3) := by decide +kernel
theorem dX5_at_4 : decode cX5_at 4 = .ok (.iload_n 1, 1) := by decide +kernel
theorem dX5_at_5 : decode cX5_at 5 = .ok (.aload_n 0, 1) := by decide +kernel
theorem dX5_at_6 : decode cX5_at 6 = .ok (.getfield 7, 3) := by decide +kernel
theorem dX5_at_9 : decode cX5_at 9 = .ok (.arraylength, 1) := by decide +kernel
theorem dX5_at_10 : decode cX5_at 10 = .ok (.if_icmp .ge 12, 3) := by decide +kernel
theorem dX5_at_13 : decode cX5_at 13 = .ok (.aload_n 0, 1) := by decide +kernel
theorem dX5_at_14 : decode cX5_at 14 = .ok (.getfield 7, 3) := by decide +kernel
theorem dX5_at_17 : decode cX5_at 17 = .ok (.iload_n 1, 1) := by decide +kernel
theorem dX5_at_18 : decode cX5_at 18 = .ok (.iaload, 1) := by decide +kernel
theorem dX5_at_19 : decode cX5_at 19 = .ok (.goto 4, 3) := by decide +kernel
theorem dX5_at_22 : decode cX5_at 22 = .ok (.iconst 0, 1) := by decide +kernel
theorem dX5_at_23 : decode cX5_at 23 = .ok (.ireturn, 1) := by decide +kernel
theorem dX5_put_0 : decode cX5_put 0 = .ok (.iload_n 1, 1) := by decide +kernel
theorem dX5_put_1 : decode cX5_put 1 = .ok (.ifCond .lt 19, 3) := by decide +kernel
theorem dX5_put_4 : decode cX5_put 4 = .ok (.iload_n 1, 1) := by decide +kernel
theorem dX5_put_5 : decode cX5_put 5 = .ok (.aload_n 0, 1) := by decide +kernel
theorem dX5_put_6 : decode cX5_put 6 = .ok (.getfield 7, 3) := by decide +kernel
theorem dX5_put_9 : decode cX5_put 9 = .ok (.arraylength, 1) := by decide +kernel
theorem dX5_put_10 : decode cX5_put 10 = .ok (.if_icmp .ge 10, 3) := by decide +kernel
theorem dX5_put_13 : decode cX5_put 13 = .ok (.aload_n 0, 1) := by decide +kernel
theorem dX5_put_14 : decode cX5_put 14 = .ok (.getfield 7, 3) := by decide +kernel
theorem dX5_put_17 : decode cX5_put 17 = .ok (.iload_n 1, 1) := by decide +kernel
theorem dX5_put_18 : decode cX5_put 18 = .ok (.iload_n 2, 1) := by decide +kernel
theorem dX5_put_19 : decode cX5_put 19 = .ok (.iastore, 1) := by decide +kernel
theorem dX5_put_20 : decode cX5_put 20 = .ok (.return_, 1) := by decide +kernel
theorem dX5_clear_0 : decode cX5_clear 0 = .ok (.iconst 0, 1) := by decide +kernel
theorem dX5_clear_1 : decode cX5_clear 1 = .ok (.istore_n 1, 1) := by decide +kernel
theorem dX5_clear_2 : decode cX5_clear 2 = .ok (.iload_n 1, 1) := by decide +kernel
theorem dX5_clear_3 : decode cX5_clear 3 = .ok (.aload_n 0, 1) := by decide +kernel
theorem dX5_clear_4 : decode cX5_clear 4 = .ok (.getfield 7, 3) := by decide +kernel
theorem dX5_clear_7 : decode cX5_clear 7 = .ok (.arraylength, 1) := by decide +kernel
theorem dX5_clear_8 : decode cX5_clear 8 = .ok (.if_icmp .ge 16, 3) := by decide +kernel
theorem dX5_clear_11 : decode cX5_clear 11 = .ok (.aload_n 0, 1) := by decide +kernel
theorem dX5_clear_12 : decode cX5_clear 12 = .ok (.getfield 7, 3) := by decide +kernel
theorem dX5_clear_15 : decode cX5_clear 15 = .ok (.iload_n 1, 1) := by decide +kernel
theorem dX5_clear_16 : decode cX5_clear 16 = .ok (.iconst 0, 1) := by decide +kernel
theorem dX5_clear_17 : decode cX5_clear 17 = .ok (.iastore, 1) := by decide +kernel
theorem dX5_clear_18 : decode cX5_clear 18 = .ok (.iinc 1 1, 3) := by decide +kernel
theorem dX5_clear_21 : decode cX5_clear 21 = .ok (.goto (-19), 3) := by decide +kernel
theorem dX5_clear_24 : decode cX5_clear 24 = .ok (.return_, 1) := by decide +kernel
theorem dX5_copy_0 : decode cX5_copy 0 = .ok (.aload_n 0, 1) := by decide +kernel
theorem dX5_copy_1 : decode cX5_copy 1 = .ok (.getfield 7, 3) := by decide +kernel
theorem dX5_copy_4 : decode cX5_copy 4 = .ok (.arraylength, 1) := by decide +kernel
theorem dX5_copy_5 : decode cX5_copy 5 = .ok (.aload_n 1, 1) := by decide +kernel
theorem dX5_copy_6 : decode cX5_copy 6 = .ok (.getfield 7, 3) := by decide +kernel
theorem dX5_copy_9 : decode cX5_copy 9 = .ok (.arraylength, 1) := by decide +kernel
theorem dX5_copy_10 : decode cX5_copy 10 = .ok (.invokestatic 13, 3) := by decide +kernel
theorem dX5_copy_13 : decode cX5_copy 13 = .ok (.istore_n 2, 1) := by decide +kernel
theorem dX5_copy_14 : decode cX5_copy 14 = .ok (.iconst 0, 1) := by decide +kernel
theorem dX5_copy_15 : decode cX5_copy 15 = .ok (.istore_n 3, 1) := by decide +kernel
theorem dX5_copy_16 : decode cX5_copy 16 = .ok (.iload_n 3, 1) := by decide +kernel
theorem dX5_copy_17 : decode cX5_copy 17 = .ok (.iload_n 2, 1) := by decide +kernel
theorem dX5_copy_18 : decode cX5_copy 18 = .ok (.if_icmp .ge 21, 3) := by decide +kernel
theorem dX5_copy_21 : decode cX5_copy 21 = .ok (.aload_n 0, 1) := by decide +kernel
theorem dX5_copy_22 : decode cX5_copy 22 = .ok (.getfield 7, 3) := by decide +kernel
theorem dX5_copy_25 : decode cX5_copy 25 = .ok (.iload_n 3, 1) := by decide +kernel
theorem dX5_copy_26 : decode cX5_copy 26 = .ok (.aload_n 1, 1) := by decide +kernel
theorem dX5_copy_27 : decode cX5_copy 27 = .ok (.getfield 7, 3) := by decide +kernel
theorem dX5_copy_30 : decode cX5_copy 30 = .ok (.iload_n 3, 1) := by decide +kernel
theorem dX5_copy_31 : decode cX5_copy 31 = .ok (.iaload, 1) := by decide +kernel
theorem dX5_copy_32 : decode cX5_copy 32 = .ok (.iastore, 1) := by decide +kernel
theorem dX5_copy_33 : decode cX5_copy 33 = .ok (.iinc 3 1, 3) := by decide +kernel
theorem dX5_copy_36 : decode cX5_copy 36 = .ok (.goto (-20), 3) := by decide +kernel
theorem dX5_copy_39 : decode cX5_copy 39 = .ok (.return_, 1) := by decide +kernel
theorem dX6_init_0 : decode cX6_init 0 = .ok (.aload_n 0, 1) := by decide +kernel
theorem dX6_init_1 : decode cX6_init 1 = .ok (.invokespecial 3, 3) := by decide +kernel
theorem dX6_init_4 : decode cX6_init 4 = .ok (.aload_n 0, 1) := by decide +kernel
theorem dX6_init_5 : decode cX6_init 5 = .ok (.bipush 10, 2) := by decide +kernel
theorem dX6_init_7 : decode cX6_init 7 = .ok (.putfield 9, 3) := by decide +kernel
theorem dX6_init_10 : decode cX6_init 10 = .ok (.aload_n 0, 1) := by decide +kernel
theorem dX6_init_11 : decode cX6_init 11 = .ok (.iconst 4, 1) := by decide +kernel
theorem dX6_init_12 : decode cX6_init 12 = .ok (.putfield 15, 3) := by decide +kernel
theorem dX6_init_15 : decode cX6_init 15 = .ok (.aload_n 0, 1) := by decide +kernel
theorem dX6_init_16 : decode cX6_init 16 = .ok (.iconst 0, 1) := by decide +kernel
theorem dX6_init_17 : decode cX6_init 17 = .ok (.putfield 18, 3) := by decide +kernel
theorem dX6_init_20 : decode cX6_init 20 = .ok (.aload_n 0, 1) := by decide +kernel
theorem dX6_init_21 : decode cX6_init 21 = .ok (.new 21, 3) := by decide +kernel
theorem dX6_init_24 : decode cX6_init 24 = .ok (.dup, 1) := by decide +kernel
theorem dX6_init_25 : decode cX6_init 25 = .ok (.bipush 12, 2) := by decide +kernel
theorem dX6_init_27 : decode cX6_init 27 = .ok (.invokespecial 23, 3) := by decide +kernel
theorem dX6_init_30 : decode cX6_init 30 = .ok (.putfield 26, 3) := by decide +kernel
theorem dX6_init_33 : decode cX6_init 33 = .ok (.aload_n 0, 1) := by decide +kernel
theorem dX6_init_34 : decode cX6_init 34 = .ok (.iconst 0, 1) := by decide +kernel
theorem dX6_init_35 : decode cX6_init 35 = .ok (.putfield 30, 3) := by decide +kernel
theorem dX6_init_38 : decode cX6_init 38 = .ok (.aload_n 0, 1) := by decide +kernel
theorem dX6_init_39 : decode cX6_init 39 = .ok (.new 21, 3) := by decide +kernel
theorem dX6_init_42 : decode cX6_init 42 = .ok (.dup, 1) := by decide +kernel
theorem dX6_init_43 : decode cX6_init 43 = .ok (.bipush 10, 2) := by decide +kernel
theorem dX6_init_45 : decode cX6_init 45 = .ok (.invokespecial 23, 3) := by decide +kernel
theorem dX6_init_48 : decode cX6_init 48 = .ok (.putfield 33, 3) := by decide +kernel
theorem dX6_init_51 : decode cX6_init 51 = .ok (.aload_n 0, 1) := by decide +kernel
theorem dX6_init_52 : decode cX6_init 52 = .ok (.new 21, 3) := by decide +kernel
theorem dX6_init_55 : decode cX6_init 55 = .ok (.dup, 1) := by decide +kernel
theorem dX6_init_56 : decode cX6_init 56 = .ok (.bipush 10, 2) := by decide +kernel
theorem dX6_init_58 : decode cX6_init 58 = .ok (.invokespecial 23, 3) := by decide +kernel
theorem dX6_init_61 : decode cX6_init 61 = .ok (.putfield 36, 3) := by decide +kernel
theorem dX6_init_64 : decode cX6_init 64 = .ok (.aload_n 0, 1) := by decide +kernel
theorem dX6_init_65 : decode cX6_init 65 = .ok (.iconst 0, 1) := by decide +kernel
theorem dX6_init_66 : decode cX6_init 66 = .ok (.putfield 39, 3) := by decide +kernel
theorem dX6_init_69 : decode cX6_init 69 = .ok (.aload_n 0, 1) := by decide +kernel
theorem dX6_init_70 : decode cX6_init 70 = .ok (.new 21, 3) := by decide +kernel
theorem dX6_init_73 : decode cX6_init 73 = .ok (.dup, 1) := by decide +kernel
theorem dX6_init_74 : decode cX6_init 74 = .ok (.bipush 60, 2) := by decide +kernel
theorem dX6_init_76 : decode cX6_init 76 = .ok (.invokespecial 23, 3) := by decide +kernel
theorem dX6_init_79 : decode cX6_init 79 = .ok (.putfield 42, 3) := by decide +kernel
theorem dX6_init_82 : decode cX6_init 82 = .ok (.aload_n 0, 1) := by decide +kernel
theorem dX6_init_83 : decode cX6_init 83 = .ok (.new 21, 3) := by decide +kernel
theorem dX6_init_86 : decode cX6_init 86 = .ok (.dup, 1) := by decide +kernel
theorem dX6_init_87 : decode cX6_init 87 = .ok (.sipush 720, 3) := by decide +kernel
theorem dX6_init_90 : decode cX6_init 90 = .ok (.invokespecial 23, 3) := by decide +kernel
theorem dX6_init_93 : decode cX6_init 93 = .ok (.putfield 45, 3) := by decide +kernel
theorem dX6_init_96 : decode cX6_init 96 = .ok (.aload_n 0, 1) := by decide +kernel
theorem dX6_init_97 : decode cX6_init 97 = .ok (.new 48, 3) := by decide +kernel
theorem dX6_init_100 : decode cX6_init 100 = .ok (.dup, 1) := by decide +kernel
theorem dX6_init_101 : decode cX6_init 101 = .ok (.invokespecial 50, 3) := by decide +kernel
theorem dX6_init_104 : decode cX6_init 104 = .ok (.putfield 51, 3) := by decide +kernel
theorem dX6_init_107 : decode cX6_init 107 = .ok (.aload_n 0, 1) := by decide +kernel
theorem dX6_init_108 : decode cX6_init 108 = .ok (.iconst 0, 1) := by decide +kernel
theorem dX6_init_109 : decode cX6_init 109 = .ok (.putfield 55, 3) := by decide +kernel
theorem dX6_init_112 : decode cX6_init 112 = .ok (.return_, 1) := by decide +kernel
theorem dX6_begin_0 : decode cX6_begin 0 = .ok (.aload_n 0, 1) := by decide +kernel
theorem dX6_begin_1 : decode cX6_begin 1 = .ok (.iload_n 1, 1) := by decide +kernel
theorem dX6_begin_2 : decode cX6_begin 2 = .ok (.putfield 9, 3) := by decide +kernel
theorem dX6_begin_5 : decode cX6_begin 5 = .ok (.aload_n 0, 1) := by decide +kernel
theorem dX6_begin_6 : decode cX6_begin 6 = .ok (.iload_n 2, 1) := by decide +kernel
theorem dX6_begin_7 : decode cX6_begin 7 = .ok (.putfield 15, 3) := by decide +kernel
theorem dX6_begin_10 : decode cX6_begin 10 = .ok (.aload_n 0, 1) := by decide +kernel
theorem dX6_begin_11 : decode cX6_begin 11 = .ok (.iconst 0, 1) := by decide +kernel
theorem dX6_begin_12 : decode cX6_begin 12 = .ok (.putfield 18, 3) := by decide +kernel
theorem dX6_begin_15 : decode cX6_begin 15 = .ok (.aload_n 0, 1) := by decide +kernel
theorem dX6_begin_16 : decode cX6_begin 16 = .ok (.iconst 0, 1) := by decide +kernel
theorem dX6_begin_17 : decode cX6_begin 17 = .ok (.putfield 55, 3) := by decide +kernel
theorem dX6_begin_20 : decode cX6_begin 20 = .ok (.aload_n 0, 1) := by decide +kernel
theorem dX6_begin_21 : decode cX6_begin 21 = .ok (.getfield 26, 3) := by decide +kernel
theorem dX6_begin_24 : decode cX6_begin 24 = .ok (.invokevirtual 58, 3) := by decide +kernel
theorem dX6_begin_27 : decode cX6_begin 27 = .ok (.aload_n 0, 1) := by decide +kernel
theorem dX6_begin_28 : decode cX6_begin 28 = .ok (.invokevirtual 61, 3) := by decide +kernel
theorem dX6_begin_31 : decode cX6_begin 31 = .ok (.aload_n 0, 1) := by decide +kernel
theorem dX6_begin_32 : decode cX6_begin 32 = .ok (.getfield 51, 3) := by decide +kernel
theorem dX6_begin_35 : decode cX6_begin 35 = .ok (.bipush 100, 2) := by decide +kernel
theorem dX6_begin_37 : decode cX6_begin 37 = .ok (.bipush 10, 2) := by decide +kernel
theorem dX6_begin_39 : decode cX6_begin 39 = .ok (.invokevirtual 64, 3) := by decide +kernel
theorem dX6_begin_42 : decode cX6_begin 42 = .ok (.aload_n 0, 1) := by decide +kernel
theorem dX6_begin_43 : decode cX6_begin 43 = .ok (.getfield 51, 3) := by decide +kernel
theorem dX6_begin_46 : decode cX6_begin 46 = .ok (.iconst 0, 1) := by decide +kernel
theorem dX6_begin_47 : decode cX6_begin 47 = .ok (.putfield 68, 3) := by decide +kernel
theorem dX6_begin_50 : decode cX6_begin 50 = .ok (.aload_n 0, 1) := by decide +kernel
theorem dX6_begin_51 : decode cX6_begin 51 = .ok (.getfield 51, 3) := by decide +kernel
theorem dX6_begin_54 : decode cX6_begin 54 = .ok (.iconst 0, 1) := by decide +kernel
theorem dX6_begin_55 : decode cX6_begin 55 = .ok (.putfield 71, 3) := by decide +kernel
theorem dX6_begin_58 : decode cX6_begin 58 = .ok (.return_, 1) := by decide +kernel
theorem dX6_copy_0 : decode cX6_copy 0 = .ok (.aload_n 0, 1) := by decide +kernel
theorem dX6_copy_1 : decode cX6_copy 1 = .ok (.aload_n 1, 1) := by decide +kernel
theorem dX6_copy_2 : decode cX6_copy 2 = .ok (.getfield 9, 3) := by decide +kernel
theorem dX6_copy_5 : decode cX6_copy 5 = .ok (.putfield 9, 3) := by decide +kernel
theorem dX6_copy_8 : decode cX6_copy 8 = .ok (.aload_n 0, 1) := by decide +kernel
theorem dX6_copy_9 : decode cX6_copy 9 = .ok (.aload_n 1, 1) := by decide +kernel
theorem dX6_copy_10 : decode cX6_copy 10 = .ok (.getfield 15, 3) := by decide +kernel
theorem dX6_copy_13 : decode cX6_copy 13 = .ok (.putfield 15, 3) := by decide +kernel
theorem dX6_copy_16 : decode cX6_copy 16 = .ok (.aload_n 0, 1) := by decide +kernel
theorem dX6_copy_17 : decode cX6_copy 17 = .ok (.aload_n 1, 1) := by decide +kernel
theorem dX6_copy_18 : decode cX6_copy 18 = .ok (.getfield 18, 3) := by decide +kernel
theorem dX6_copy_21 : decode cX6_copy 21 = .ok (.putfield 18, 3) := by decide +kernel
theorem dX6_copy_24 : decode cX6_copy 24 = .ok (.aload_n 0, 1) := by decide +kernel
theorem dX6_copy_25 : decode cX6_copy 25 = .ok (.getfield 26, 3) := by decide +kernel
theorem dX6_copy_28 : decode cX6_copy 28 = .ok (.aload_n 1, 1) := by decide +kernel
theorem dX6_copy_29 : decode cX6_copy 29 = .ok (.getfield 26, 3) := by decide +kernel
theorem dX6_copy_32 : decode cX6_copy 32 = .ok (.invokevirtual 74, 3) := by decide +kernel
theorem dX6_copy_35 : decode cX6_copy 35 = .ok (.aload_n 0, 1) := by decide +kernel
theorem dX6_copy_36 : decode cX6_copy 36 = .ok (.aload_n 1, 1) := by decide +kernel
theorem dX6_copy_37 : decode cX6_copy 37 = .ok (.getfield 30, 3) := by decide +kernel
theorem dX6_copy_40 : decode cX6_copy 40 = .ok (.putfield 30, 3) := by decide +kernel
theorem dX6_copy_43 : decode cX6_copy 43 = .ok (.aload_n 0, 1) := by decide +kernel
theorem dX6_copy_44 : decode cX6_copy 44 = .ok (.getfield 33, 3) := by decide +kernel
theorem dX6_copy_47 : decode cX6_copy 47 = .ok (.aload_n 1, 1) := by decide +kernel
theorem dX6_copy_48 : decode cX6_copy 48 = .ok (.getfield 33, 3) := by decide +kernel
theorem dX6_copy_51 : decode cX6_copy 51 = .ok (.invokevirtual 74, 3) := by decide +kernel
theorem dX6_copy_54 : decode cX6_copy 54 = .ok (.aload_n 0, 1) := by decide +kernel
theorem dX6_copy_55 : decode cX6_copy 55 = .ok (.getfield 36, 3) := by decide +kernel
theorem dX6_copy_58 : decode cX6_copy 58 = .ok (.aload_n 1, 1) := by decide +kernel
theorem dX6_copy_59 : decode cX6_copy 59 = .ok (.getfield 36, 3) := by decide +kernel
theorem dX6_copy_62 : decode cX6_copy 62 = .ok (.invokevirtual 74, 3) := by decide +kernel
theorem dX6_copy_65 : decode cX6_copy 65 = .ok (.aload_n 0, 1) := by decide +kernel
theorem dX6_copy_66 : decode cX6_copy 66 = .ok (.aload_n 1, 1) := by decide +kernel
theorem dX6_copy_67 : decode cX6_copy 67 = .ok (.getfield 39, 3) := by decide +kernel
theorem dX6_copy_70 : decode cX6_copy 70 = .ok (.putfield 39, 3) := by decide +kernel
theorem dX6_copy_73 : decode cX6_copy 73 = .ok (.aload_n 0, 1) := by decide +kernel
theorem dX6_copy_74 : decode cX6_copy 74 = .ok (.getfield 42, 3) := by decide +kernel
theorem dX6_copy_77 : decode cX6_copy 77 = .ok (.aload_n 1, 1) := by decide +kernel
theorem dX6_copy_78 : decode cX6_copy 78 = .ok (.getfield 42, 3) := by decide +kernel
theorem dX6_copy_81 : decode cX6_copy 81 = .ok (.invokevirtual 74, 3) := by decide +kernel
theorem dX6_copy_84 : decode cX6_copy 84 = .ok (.aload_n 0, 1) := by decide +kernel
theorem dX6_copy_85 : decode cX6_copy 85 = .ok (.getfield 45, 3) := by decide +kernel
theorem dX6_copy_88 : decode cX6_copy 88 = .ok (.aload_n 1, 1) := by decide +kernel
theorem dX6_copy_89 : decode cX6_copy 89 = .ok (.getfield 45, 3) := by decide +kernel
theorem dX6_copy_92 : decode cX6_copy 92 = .ok (.invokevirtual 74, 3) := by decide +kernel
theorem dX6_copy_95 : decode cX6_copy 95 = .ok (.aload_n 0, 1) := by decide +kernel
theorem dX6_copy_96 : decode cX6_copy 96 = .ok (.getfield 51, 3) := by decide +kernel
theorem dX6_copy_99 : decode cX6_copy 99 = .ok (.aload_n 1, 1) := by decide +kernel
theorem dX6_copy_100 : decode cX6_copy 100 = .ok (.getfield 51, 3) := by decide +kernel
theorem dX6_copy_103 : decode cX6_copy 103 = .ok (.invokevirtual 78, 3) := by decide +kernel
theorem dX6_copy_106 : decode cX6_copy 106 = .ok (.aload_n 0, 1) := by decide +kernel
theorem dX6_copy_107 : decode cX6_copy 107 = .ok (.aload_n 1, 1) := by decide +kernel
theorem dX6_copy_108 : decode cX6_copy 108 = .ok (.getfield 55, 3) := by decide +kernel
theorem dX6_copy_111 : decode cX6_copy 111 = .ok (.putfield 55, 3) := by decide +kernel
theorem dX6_copy_114 : decode cX6_copy 114 = .ok (.return_, 1) := by decide +kernel
theorem dX6_flawed_0 : decode cX6_flawed 0 = .ok (.iload_n 1, 1) := by decide +kernel
theorem dX6_flawed_1 : decode cX6_flawed 1 = .ok (.ifCond .lt 27, 3) := by decide +kernel
theorem dX6_flawed_4 : decode cX6_flawed 4 = .ok (.iload_n 1, 1) := by decide +kernel
theorem dX6_flawed_5 : decode cX6_flawed 5 = .ok (.aload_n 0, 1) := by decide +kernel
theorem dX6_flawed_6 : decode cX6_flawed 6 = .ok (.getfield 9, 3) := by decide +kernel
theorem dX6_flawed_9 : decode cX6_flawed 9 = .ok (.if_icmp .ge 19, 3) := by decide +kernel
theorem dX6_flawed_12 : decode cX6_flawed 12 = .ok (.iload_n 2, 1) := by decide +kernel
theorem dX6_flawed_13 : decode cX6_flawed 13 = .ok (.ifCond .lt 15, 3) := by decide +kernel
theorem dX6_flawed_16 : decode cX6_flawed 16 = .ok (.iload_n 2, 1) := by decide +kernel
theorem dX6_flawed_17 : decode cX6_flawed 17 = .ok (.aload_n 0, 1) := by decide +kernel
theorem dX6_flawed_18 : decode cX6_flawed 18 = .ok (.getfield 15, 3) := by decide +kernel
theorem dX6_flawed_21 : decode cX6_flawed 21 = .ok (.if_icmp .ge 7, 3) := by decide +kernel
theorem dX6_flawed_24 : decode cX6_flawed 24 = .ok (.iconst 1, 1) := by decide +kernel
theorem dX6_flawed_25 : decode cX6_flawed 25 = .ok (.goto 4, 3) := by decide +kernel
theorem dX6_flawed_28 : decode cX6_flawed 28 = .ok (.iconst 0, 1) := by decide +kernel
theorem dX6_flawed_29 : decode cX6_flawed 29 = .ok (.istore_n 3, 1) := by decide +kernel
theorem dX6_flawed_30 : decode cX6_flawed 30 = .ok (.iload_n 3, 1) := by decide +kernel
theorem dX6_flawed_31 : decode cX6_flawed 31 = .ok (.ifCond .eq 23, 3) := by decide +kernel
theorem dX6_flawed_34 : decode cX6_flawed 34 = .ok (.aload_n 0, 1) := by decide +kernel
theorem dX6_flawed_35 : decode cX6_flawed 35 = .ok (.getfield 26, 3) := by decide +kernel
theorem dX6_flawed_38 : decode cX6_flawed 38 = .ok (.iload_n 2, 1) := by decide +kernel
theorem dX6_flawed_39 : decode cX6_flawed 39 = .ok (.invokevirtual 81, 3) := by decide +kernel
theorem dX6_flawed_42 : decode cX6_flawed 42 = .ok (.iload_n 1, 1) := by decide +kernel
theorem dX6_flawed_43 : decode cX6_flawed 43 = .ok (.ishr, 1) := by decide +kernel
theorem dX6_flawed_44 : decode cX6_flawed 44 = .ok (.iconst 1, 1) := by decide +kernel
theorem dX6_flawed_45 : decode cX6_flawed 45 = .ok (.iand, 1) := by decide +kernel
theorem dX6_flawed_46 : decode cX6_flawed 46 = .ok (.iconst 1, 1) := by decide +kernel
theorem dX6_flawed_47 : decode cX6_flawed 47 = .ok (.if_icmp .ne 7, 3) := by decide +kernel
theorem dX6_flawed_50 : decode cX6_flawed 50 = .ok (.iconst 1, 1) := by decide +kernel
theorem dX6_flawed_51 : decode cX6_flawed 51 = .ok (.goto 4, 3) := by decide +kernel
theorem dX6_flawed_54 : decode cX6_flawed 54 = .ok (.iconst 0, 1) := by decide +kernel
theorem dX6_flawed_55 : decode cX6_flawed 55 = .ok (.ireturn, 1) := by decide +kernel
theorem dX6_mark_0 : decode cX6_mark 0 = .ok (.iload_n 1, 1) := by decide +kernel
theorem dX6_mark_1 : decode cX6_mark 1 = .ok (.ifCond .lt 67, 3) := by decide +kernel
theorem dX6_mark_4 : decode cX6_mark 4 = .ok (.iload_n 1, 1) := by decide +kernel
theorem dX6_mark_5 : decode cX6_mark 5 = .ok (.aload_n 0, 1) := by decide +kernel
theorem dX6_mark_6 : decode cX6_mark 6 = .ok (.getfield 9, 3) := by decide +kernel
theorem dX6_mark_9 : decode cX6_mark 9 = .ok (.if_icmp .ge 59, 3) := by decide +kernel
theorem dX6_mark_12 : decode cX6_mark 12 = .ok (.iload_n 2, 1) := by decide +kernel
theorem dX6_mark_13 : decode cX6_mark 13 = .ok (.ifCond .lt 55, 3) := by decide +kernel
theorem dX6_mark_16 : decode cX6_mark 16 = .ok (.iload_n 2, 1) := by decide +kernel
theorem dX6_mark_17 : decode cX6_mark 17 = .ok (.aload_n 0, 1) := by decide +kernel
theorem dX6_mark_18 : decode cX6_mark 18 = .ok (.getfield 15, 3) := by decide +kernel
theorem dX6_mark_21 : decode cX6_mark 21 = .ok (.if_icmp .ge 47, 3) := by decide +kernel
theorem dX6_mark_24 : decode cX6_mark 24 = .ok (.iconst 1, 1) := by decide +kernel
theorem dX6_mark_25 : decode cX6_mark 25 = .ok (.iload_n 1, 1) := by decide +kernel
theorem dX6_mark_26 : decode cX6_mark 26 = .ok (.ishl, 1) := by decide +kernel
theorem dX6_mark_27 : decode cX6_mark 27 = .ok (.istore 4, 2) := by decide +kernel
theorem dX6_mark_29 : decode cX6_mark 29 = .ok (.aload_n 0, 1) := by decide +kernel
theorem dX6_mark_30 : decode cX6_mark 30 = .ok (.getfield 26, 3) := by decide +kernel
theorem dX6_mark_33 : decode cX6_mark 33 = .ok (.iload_n 2, 1) := by decide +kernel
theorem dX6_mark_34 : decode cX6_mark 34 = .ok (.iload_n 3, 1) := by decide +kernel
theorem dX6_mark_35 : decode cX6_mark 35 = .ok (.ifCond .eq 17, 3) := by decide +kernel
theorem dX6_mark_38 : decode cX6_mark 38 = .ok (.aload_n 0, 1) := by decide +kernel
theorem dX6_mark_39 : decode cX6_mark 39 = .ok (.getfield 26, 3) := by decide +kernel
theorem dX6_mark_42 : decode cX6_mark 42 = .ok (.iload_n 2, 1) := by decide +kernel
theorem dX6_mark_43 : decode cX6_mark 43 = .ok (.invokevirtual 81, 3) := by decide +kernel
theorem dX6_mark_46 : decode cX6_mark 46 = .ok (.iload 4, 2) := by decide +kernel
theorem dX6_mark_48 : decode cX6_mark 48 = .ok (.ior, 1) := by decide +kernel
theorem dX6_mark_49 : decode cX6_mark 49 = .ok (.goto 16, 3) := by decide +kernel
theorem dX6_mark_52 : decode cX6_mark 52 = .ok (.aload_n 0, 1) := by decide +kernel
theorem dX6_mark_53 : decode cX6_mark 53 = .ok (.getfield 26, 3) := by decide +kernel
theorem dX6_mark_56 : decode cX6_mark 56 = .ok (.iload_n 2, 1) := by decide +kernel
theorem dX6_mark_57 : decode cX6_mark 57 = .ok (.invokevirtual 81, 3) := by decide +kernel
theorem dX6_mark_60 : decode cX6_mark 60 = .ok (.iload 4, 2) := by decide +kernel
theorem dX6_mark_62 : decode cX6_mark 62 = .ok (.iconst (-1), 1) := by decide +kernel
theorem dX6_mark_63 : decode cX6_mark 63 = .ok (.ixor, 1) := by decide +kernel
theorem dX6_mark_64 : decode cX6_mark 64 = .ok (.iand, 1) := by decide +kernel
theorem dX6_mark_65 : decode cX6_mark 65 = .ok (.invokevirtual 85, 3) := by decide +kernel
theorem dX6_mark_68 : decode cX6_mark 68 = .ok (.return_, 1) := by decide +kernel
theorem dX6_flawCount_0 : decode cX6_flawCount 0 = .ok (.iconst 0, 1) := by decide +kernel
theorem dX6_flawCount_1 : decode cX6_flawCount 1 = .ok (.istore_n 1, 1) := by decide +kernel
theorem dX6_flawCount_2 : decode cX6_flawCount 2 = .ok (.iconst 0, 1) := by decide +kernel
theorem dX6_flawCount_3 : decode cX6_flawCount 3 = .ok (.istore_n 2, 1) := by decide +kernel
theorem dX6_flawCount_4 : decode cX6_flawCount 4 = .ok (.iload_n 2, 1) := by decide +kernel
theorem dX6_flawCount_5 : decode cX6_flawCount 5 = .ok (.aload_n 0, 1) := by decide +kernel
theorem dX6_flawCount_6 : decode cX6_flawCount 6 = .ok (.getfield 15, 3) := by decide +kernel
theorem dX6_flawCount_9 : decode cX6_flawCount 9 = .ok (.if_icmp .ge 23, 3) := by decide +kernel
theorem dX6_flawCount_12 : decode cX6_flawCount 12 = .ok (.iload_n 1, 1) := by decide +kernel
theorem dX6_flawCount_13 : decode cX6_flawCount 13 = .ok (.aload_n 0, 1) := by decide +kernel
theorem dX6_flawCount_14 : decode cX6_flawCount 14 = .ok (.getfield 26, 3) := by decide +kernel
theorem dX6_flawCount_17 : decode cX6_flawCount 17 = .ok (.iload_n 2, 1) := by decide +kernel
theorem dX6_flawCount_18 : decode cX6_flawCount 18 = .ok (.invokevirtual 81, 3) := by decide +kernel
theorem dX6_flawCount_21 : decode cX6_flawCount 21 = .ok (.invokestatic 88, 3) := by decide +kernel
theorem dX6_flawCount_24 : decode cX6_flawCount 24 = .ok (.iadd, 1) := by decide +kernel
theorem dX6_flawCount_25 : decode cX6_flawCount 25 = .ok (.istore_n 1, 1) := by decide +kernel
theorem dX6_flawCount_26 : decode cX6_flawCount 26 = .ok (.iinc 2 1, 3) := by decide +kernel
theorem dX6_flawCount_29 : decode cX6_flawCount 29 = .ok (.goto (-25), 3) := by decide +kernel
theorem dX6_flawCount_32 : decode cX6_flawCount 32 = .ok (.iload_n 1, 1) := by decide +kernel
theorem dX6_flawCount_33 : decode cX6_flawCount 33 = .ok (.ireturn, 1) := by decide +kernel
theorem dX6_touched_0 : decode cX6_touched 0 = .ok (.aload_n 0, 1) := by decide +kernel
theorem dX6_touched_1 : decode cX6_touched 1 = .ok (.getfield 26, 3) := by decide +kernel
theorem dX6_touched_4 : decode cX6_touched 4 = .ok (.iload_n 2, 1) := by decide +kernel
theorem dX6_touched_5 : decode cX6_touched 5 = .ok (.invokevirtual 81, 3) := by decide +kernel
theorem dX6_touched_8 : decode cX6_touched 8 = .ok (.istore_n 3, 1) := by decide +kernel
theorem dX6_touched_9 : decode cX6_touched 9 = .ok (.iload_n 3, 1) := by decide +kernel
theorem dX6_touched_10 : decode cX6_touched 10 = .ok (.iconst 1, 1) := by decide +kernel
theorem dX6_touched_11 : decode cX6_touched 11 = .ok (.ishl, 1) := by decide +kernel
theorem dX6_touched_12 : decode cX6_touched 12 = .ok (.iload_n 3, 1) := by decide +kernel
theorem dX6_touched_13 : decode cX6_touched 13 = .ok (.iconst 1, 1) := by decide +kernel
theorem dX6_touched_14 : decode cX6_touched 14 = .ok (.ishr, 1) := by decide +kernel
theorem dX6_touched_15 : decode cX6_touched 15 = .ok (.ior, 1) := by decide +kernel
theorem dX6_touched_16 : decode cX6_touched 16 = .ok (.aload_n 0, 1) := by decide +kernel
theorem dX6_touched_17 : decode cX6_touched 17 = .ok (.getfield 26, 3) := by decide +kernel
theorem dX6_touched_20 : decode cX6_touched 20 = .ok (.iload_n 2, 1) := by decide +kernel
theorem dX6_touched_21 : decode cX6_touched 21 = .ok (.iconst 1, 1) := by decide +kernel
theorem dX6_touched_22 : decode cX6_touched 22 = .ok (.isub, 1) := by decide +kernel
theorem dX6_touched_23 : decode cX6_touched 23 = .ok (.invokevirtual 81, 3) := by decide +kernel
theorem dX6_touched_26 : decode cX6_touched 26 = .ok (.ior, 1) := by decide +kernel
theorem dX6_touched_27 : decode cX6_touched 27 = .ok (.aload_n 0, 1) := by decide +kernel
theorem dX6_touched_28 : decode cX6_touched 28 = .ok (.getfield 26, 3) := by decide +kernel
theorem dX6_touched_31 : decode cX6_touched 31 = .ok (.iload_n 2, 1) := by decide +kernel
theorem dX6_touched_32 : decode cX6_touched 32 = .ok (.iconst 1, 1) := by decide +kernel
theorem dX6_touched_33 : decode cX6_touched 33 = .ok (.iadd, 1) := by decide +kernel
theorem dX6_touched_34 : decode cX6_touched 34 = .ok (.invokevirtual 81, 3) := by decide +kernel
theorem dX6_touched_37 : decode cX6_touched 37 = .ok (.ior, 1) := by decide +kernel
theorem dX6_touched_38 : decode cX6_touched 38 = .ok (.istore 4, 2) := by decide +kernel
theorem dX6_touched_40 : decode cX6_touched 40 = .ok (.iload 4, 2) := by decide +kernel
theorem dX6_touched_42 : decode cX6_touched 42 = .ok (.iload_n 1, 1) := by decide +kernel
theorem dX6_touched_43 : decode cX6_touched 43 = .ok (.ishr, 1) := by decide +kernel
theorem dX6_touched_44 : decode cX6_touched 44 = .ok (.iconst 1, 1) := by decide +kernel
theorem dX6_touched_45 : decode cX6_touched 45 = .ok (.iand, 1) := by decide +kernel
theorem dX6_touched_46 : decode cX6_touched 46 = .ok (.iconst 1, 1) := by decide +kernel
theorem dX6_touched_47 : decode cX6_touched 47 = .ok (.if_icmp .ne 7, 3) := by decide +kernel
theorem dX6_touched_50 : decode cX6_touched 50 = .ok (.iconst 1, 1) := by decide +kernel
theorem dX6_touched_51 : decode cX6_touched 51 = .ok (.goto 4, 3) := by decide +kernel
theorem dX6_touched_54 : decode cX6_touched 54 = .ok (.iconst 0, 1) := by decide +kernel
theorem dX6_touched_55 : decode cX6_touched 55 = .ok (.ireturn, 1) := by decide +kernel
theorem dX6_turnFlaws_0 : decode cX6_turnFlaws 0 = .ok (.aload_n 0, 1) := by decide +kernel
theorem dX6_turnFlaws_1 : decode cX6_turnFlaws 1 = .ok (.getfield 26, 3) := by decide +kernel
theorem dX6_turnFlaws_4 : decode cX6_turnFlaws 4 = .ok (.invokevirtual 58, 3) := by decide +kernel
theorem dX6_turnFlaws_7 : decode cX6_turnFlaws 7 = .ok (.iconst 0, 1) := by decide +kernel
theorem dX6_turnFlaws_8 : decode cX6_turnFlaws 8 = .ok (.istore_n 2, 1) := by decide +kernel
theorem dX6_turnFlaws_9 : decode cX6_turnFlaws 9 = .ok (.iload_n 2, 1) := by decide +kernel
theorem dX6_turnFlaws_10 : decode cX6_turnFlaws 10 = .ok (.aload_n 0, 1) := by decide +kernel
theorem dX6_turnFlaws_11 : decode cX6_turnFlaws 11 = .ok (.getfield 15, 3) := by decide +kernel
theorem dX6_turnFlaws_14 : decode cX6_turnFlaws 14 = .ok (.if_icmp .ge 51, 3) := by decide +kernel
theorem dX6_turnFlaws_17 : decode cX6_turnFlaws 17 = .ok (.iconst 0, 1) := by decide +kernel
theorem dX6_turnFlaws_18 : decode cX6_turnFlaws 18 = .ok (.istore_n 3, 1) := by decide +kernel
theorem dX6_turnFlaws_19 : decode cX6_turnFlaws 19 = .ok (.iload_n 3, 1) := by decide +kernel
theorem dX6_turnFlaws_20 : decode cX6_turnFlaws 20 = .ok (.aload_n 0, 1) := by decide +kernel
theorem dX6_turnFlaws_21 : decode cX6_turnFlaws 21 = .ok (.getfield 9, 3) := by decide +kernel
theorem dX6_turnFlaws_24 : decode cX6_turnFlaws 24 = .ok (.if_icmp .ge 35, 3) := by decide +kernel
theorem dX6_turnFlaws_27 : decode cX6_turnFlaws 27 = .ok (.aload_n 0, 1) := by decide +kernel
theorem dX6_turnFlaws_28 : decode cX6_turnFlaws 28 = .ok (.aload_n 0, 1) := by decide +kernel
theorem dX6_turnFlaws_29 : decode cX6_turnFlaws 29 = .ok (.getfield 9, 3) := by decide +kernel
theorem dX6_turnFlaws_32 : decode cX6_turnFlaws 32 = .ok (.iconst 1, 1) := by decide +kernel
theorem dX6_turnFlaws_33 : decode cX6_turnFlaws 33 = .ok (.isub, 1) := by decide +kernel
theorem dX6_turnFlaws_34 : decode cX6_turnFlaws 34 = .ok (.iload_n 3, 1) := by decide +kernel
theorem dX6_turnFlaws_35 : decode cX6_turnFlaws 35 = .ok (.isub, 1) := by decide +kernel
theorem dX6_turnFlaws_36 : decode cX6_turnFlaws 36 = .ok (.aload_n 0, 1) := by decide +kernel
theorem dX6_turnFlaws_37 : decode cX6_turnFlaws 37 = .ok (.getfield 15, 3) := by decide +kernel
theorem dX6_turnFlaws_40 : decode cX6_turnFlaws 40 = .ok (.iconst 1, 1) := by decide +kernel
theorem dX6_turnFlaws_41 : decode cX6_turnFlaws 41 = .ok (.isub, 1) := by decide +kernel
theorem dX6_turnFlaws_42 : decode cX6_turnFlaws 42 = .ok (.iload_n 2, 1) := by decide +kernel
theorem dX6_turnFlaws_43 : decode cX6_turnFlaws 43 = .ok (.isub, 1) := by decide +kernel
theorem dX6_turnFlaws_44 : decode cX6_turnFlaws 44 = .ok (.aload_n 1, 1) := by decide +kernel
theorem dX6_turnFlaws_45 : decode cX6_turnFlaws 45 = .ok (.iload_n 3, 1) := by decide +kernel
theorem dX6_turnFlaws_46 : decode cX6_turnFlaws 46 = .ok (.iload_n 2, 1) := by decide +kernel
theorem dX6_turnFlaws_47 : decode cX6_turnFlaws 47 = .ok (.invokevirtual 93, 3) := by decide +kernel
theorem dX6_turnFlaws_50 : decode cX6_turnFlaws 50 = .ok (.invokevirtual 97, 3) := by decide +kernel
theorem dX6_turnFlaws_53 : decode cX6_turnFlaws 53 = .ok (.iinc 3 1, 3) := by decide +kernel
theorem dX6_turnFlaws_56 : decode cX6_turnFlaws 56 = .ok (.goto (-37), 3) := by decide +kernel
theorem dX6_turnFlaws_59 : decode cX6_turnFlaws 59 = .ok (.iinc 2 1, 3) := by decide +kernel
theorem dX6_turnFlaws_62 : decode cX6_turnFlaws 62 = .ok (.goto (-53), 3) := by decide +kernel
theorem dX6_turnFlaws_65 : decode cX6_turnFlaws 65 = .ok (.return_, 1) := by decide +kernel
theorem dX6_cutFlaws_0 : decode cX6_cutFlaws 0 = .ok (.iload_n 2, 1) := by decide +kernel
theorem dX6_cutFlaws_1 : decode cX6_cutFlaws 1 = .ok (.ifCond .eq 7, 3) := by decide +kernel
theorem dX6_cutFlaws_4 : decode cX6_cutFlaws 4 = .ok (.iload_n 1, 1) := by decide +kernel
theorem dX6_cutFlaws_5 : decode cX6_cutFlaws 5 = .ok (.goto 4, 3) := by decide +kernel
theorem dX6_cutFlaws_8 : decode cX6_cutFlaws 8 = .ok (.iconst 0, 1) := by decide +kernel
theorem dX6_cutFlaws_9 : decode cX6_cutFlaws 9 = .ok (.istore_n 3, 1) := by decide +kernel
theorem dX6_cutFlaws_10 : decode cX6_cutFlaws 10 = .ok (.aload_n 0, 1) := by decide +kernel
theorem dX6_cutFlaws_11 : decode cX6_cutFlaws 11 = .ok (.dup, 1) := by decide +kernel
theorem dX6_cutFlaws_12 : decode cX6_cutFlaws 12 = .ok (.getfield 15, 3) := by decide +kernel
theorem dX6_cutFlaws_15 : decode cX6_cutFlaws 15 = .ok (.iload_n 1, 1) := by decide +kernel
theorem dX6_cutFlaws_16 : decode cX6_cutFlaws 16 = .ok (.isub, 1) := by decide +kernel
theorem dX6_cutFlaws_17 : decode cX6_cutFlaws 17 = .ok (.putfield 15, 3) := by decide +kernel
theorem dX6_cutFlaws_20 : decode cX6_cutFlaws 20 = .ok (.iconst 0, 1) := by decide +kernel
theorem dX6_cutFlaws_21 : decode cX6_cutFlaws 21 = .ok (.istore 4, 2) := by decide +kernel
theorem dX6_cutFlaws_23 : decode cX6_cutFlaws 23 = .ok (.iload 4, 2) := by decide +kernel
theorem dX6_cutFlaws_25 : decode cX6_cutFlaws 25 = .ok (.bipush 12, 2) := by decide +kernel
theorem dX6_cutFlaws_27 : decode cX6_cutFlaws 27 = .ok (.if_icmp .ge 42, 3) := by decide +kernel
theorem dX6_cutFlaws_30 : decode cX6_cutFlaws 30 = .ok (.aload_n 0, 1) := by decide +kernel
theorem dX6_cutFlaws_31 : decode cX6_cutFlaws 31 = .ok (.getfield 26, 3) := by decide +kernel
theorem dX6_cutFlaws_34 : decode cX6_cutFlaws 34 = .ok (.iload 4, 2) := by decide +kernel
theorem dX6_cutFlaws_36 : decode cX6_cutFlaws 36 = .ok (.iload 4, 2) := by decide +kernel
theorem dX6_cutFlaws_38 : decode cX6_cutFlaws 38 = .ok (.aload_n 0, 1) := by decide +kernel
theorem dX6_cutFlaws_39 : decode cX6_cutFlaws 39 = .ok (.getfield 15, 3) := by decide +kernel
theorem dX6_cutFlaws_42 : decode cX6_cutFlaws 42 = .ok (.if_icmp .ge 17, 3) := by decide +kernel
theorem dX6_cutFlaws_45 : decode cX6_cutFlaws 45 = .ok (.aload_n 0, 1) := by decide +kernel
theorem dX6_cutFlaws_46 : decode cX6_cutFlaws 46 = .ok (.getfield 26, 3) := by decide +kernel
theorem dX6_cutFlaws_49 : decode cX6_cutFlaws 49 = .ok (.iload 4, 2) := by decide +kernel
theorem dX6_cutFlaws_51 : decode cX6_cutFlaws 51 = .ok (.iload_n 3, 1) := by decide +kernel
theorem dX6_cutFlaws_52 : decode cX6_cutFlaws 52 = .ok (.iadd, 1) := by decide +kernel
theorem dX6_cutFlaws_53 : decode cX6_cutFlaws 53 = .ok (.invokevirtual 81, 3) := by decide +kernel
theorem dX6_cutFlaws_56 : decode cX6_cutFlaws 56 = .ok (.goto 4, 3) := by decide +kernel
theorem dX6_cutFlaws_59 : decode cX6_cutFlaws 59 = .ok (.iconst 0, 1) := by decide +kernel
theorem dX6_cutFlaws_60 : decode cX6_cutFlaws 60 = .ok (.invokevirtual 85, 3) := by decide +kernel
theorem dX6_cutFlaws_63 : decode cX6_cutFlaws 63 = .ok (.iinc 4 1, 3) := by decide +kernel
theorem dX6_cutFlaws_66 : decode cX6_cutFlaws 66 = .ok (.goto (-43), 3) := by decide +kernel
theorem dX6_cutFlaws_69 : decode cX6_cutFlaws 69 = .ok (.return_, 1) := by decide +kernel
theorem dX6_clearParts_0 : decode cX6_clearParts 0 = .ok (.aload_n 0, 1) := by decide +kernel
theorem dX6_clearParts_1 : decode cX6_clearParts 1 = .ok (.iconst 0, 1) := by decide +kernel
theorem dX6_clearParts_2 : decode cX6_clearParts 2 = .ok (.putfield 30, 3) := by decide +kernel
theorem dX6_clearParts_5 : decode cX6_clearParts 5 = .ok (.aload_n 0, 1) := by decide +kernel
theorem dX6_clearParts_6 : decode cX6_clearParts 6 = .ok (.iconst 0, 1) := by decide +kernel
theorem dX6_clearParts_7 : decode cX6_clearParts 7 = .ok (.putfield 39, 3) := by decide +kernel
theorem dX6_clearParts_10 : decode cX6_clearParts 10 = .ok (.return_, 1) := by decide +kernel
theorem dX6_openPart_0 : decode cX6_openPart 0 = .ok (.aload_n 0, 1) := by decide +kernel
theorem dX6_openPart_1 : decode cX6_openPart 1 = .ok (.getfield 30, 3) := by decide +kernel
theorem dX6_openPart_4 : decode cX6_openPart 4 = .ok (.bipush 10, 2) := by decide +kernel
theorem dX6_openPart_6 : decode cX6_openPart 6 = .ok (.if_icmp .ge 37, 3) := by decide +kernel
theorem dX6_openPart_9 : decode cX6_openPart 9 = .ok (.aload_n 0, 1) := by decide +kernel
theorem dX6_openPart_10 : decode cX6_openPart 10 = .ok (.getfield 33, 3) := by decide +kernel
theorem dX6_openPart_13 : decode cX6_openPart 13 = .ok (.aload_n 0, 1) := by decide +kernel
theorem dX6_openPart_14 : decode cX6_openPart 14 = .ok (.getfield 30, 3) := by decide +kernel
theorem dX6_openPart_17 : decode cX6_openPart 17 = .ok (.iload_n 1, 1) := by decide +kernel
theorem dX6_openPart_18 : decode cX6_openPart 18 = .ok (.invokevirtual 85, 3) := by decide +kernel
theorem dX6_openPart_21 : decode cX6_openPart 21 = .ok (.aload_n 0, 1) := by decide +kernel
theorem dX6_openPart_22 : decode cX6_openPart 22 = .ok (.getfield 36, 3) := by decide +kernel
theorem dX6_openPart_25 : decode cX6_openPart 25 = .ok (.aload_n 0, 1) := by decide +kernel
theorem dX6_openPart_26 : decode cX6_openPart 26 = .ok (.getfield 30, 3) := by decide +kernel
theorem dX6_openPart_29 : decode cX6_openPart 29 = .ok (.iconst 0, 1) := by decide +kernel
theorem dX6_openPart_30 : decode cX6_openPart 30 = .ok (.invokevirtual 85, 3) := by decide +kernel
theorem dX6_openPart_33 : decode cX6_openPart 33 = .ok (.aload_n 0, 1) := by decide +kernel
theorem dX6_openPart_34 : decode cX6_openPart 34 = .ok (.dup, 1) := by decide +kernel
theorem dX6_openPart_35 : decode cX6_openPart 35 = .ok (.getfield 30, 3) := by decide +kernel
theorem dX6_openPart_38 : decode cX6_openPart 38 = .ok (.iconst 1, 1) := by decide +kernel
theorem dX6_openPart_39 : decode cX6_openPart 39 = .ok (.iadd, 1) := by decide +kernel
theorem dX6_openPart_40 : decode cX6_openPart 40 = .ok (.putfield 30, 3) := by decide +kernel
theorem dX6_openPart_43 : decode cX6_openPart 43 = .ok (.return_, 1) := by decide +kernel
theorem dX6_takeWord_0 : decode cX6_takeWord 0 = .ok (.aload_n 0, 1) := by decide +kernel
theorem dX6_takeWord_1 : decode cX6_takeWord 1 = .ok (.getfield 39, 3) := by decide +kernel
theorem dX6_takeWord_4 : decode cX6_takeWord 4 = .ok (.bipush 60, 2) := by decide +kernel
theorem dX6_takeWord_6 : decode cX6_takeWord 6 = .ok (.if_icmp .ge 100, 3) := by decide +kernel
theorem dX6_takeWord_9 : decode cX6_takeWord 9 = .ok (.aload_n 0, 1) := by decide +kernel
theorem dX6_takeWord_10 : decode cX6_takeWord 10 = .ok (.getfield 30, 3) := by decide +kernel
theorem dX6_takeWord_13 : decode cX6_takeWord 13 = .ok (.ifCond .le 93, 3) := by decide +kernel
theorem dX6_takeWord_16 : decode cX6_takeWord 16 = .ok (.iconst 0, 1) := by decide +kernel
theorem dX6_takeWord_17 : decode cX6_takeWord 17 = .ok (.istore 4, 2) := by decide +kernel
theorem dX6_takeWord_19 : decode cX6_takeWord 19 = .ok (.iload 4, 2) := by decide +kernel
theorem dX6_takeWord_21 : decode cX6_takeWord 21 = .ok (.iload_n 3, 1) := by decide +kernel
theorem dX6_takeWord_22 : decode cX6_takeWord 22 = .ok (.if_icmp .ge 34, 3) := by decide +kernel
theorem dX6_takeWord_25 : decode cX6_takeWord 25 = .ok (.aload_n 0, 1) := by decide +kernel
theorem dX6_takeWord_26 : decode cX6_takeWord 26 = .ok (.getfield 45, 3) := by decide +kernel
theorem dX6_takeWord_29 : decode cX6_takeWord 29 = .ok (.aload_n 0, 1) := by decide +kernel
theorem dX6_takeWord_30 : decode cX6_takeWord 30 = .ok (.getfield 39, 3) := by decide +kernel
theorem dX6_takeWord_33 : decode cX6_takeWord 33 = .ok (.bipush 12, 2) := by decide +kernel
theorem dX6_takeWord_35 : decode cX6_takeWord 35 = .ok (.imul, 1) := by decide +kernel
theorem dX6_takeWord_36 : decode cX6_takeWord 36 = .ok (.iload 4, 2) := by decide +kernel
theorem dX6_takeWord_38 : decode cX6_takeWord 38 = .ok (.iadd, 1) := by decide +kernel
theorem dX6_takeWord_39 : decode cX6_takeWord 39 = .ok (.aload_n 1, 1) := by decide +kernel
theorem dX6_takeWord_40 : decode cX6_takeWord 40 = .ok (.iload_n 2, 1) := by decide +kernel
theorem dX6_takeWord_41 : decode cX6_takeWord 41 = .ok (.iload 4, 2) := by decide +kernel
theorem dX6_takeWord_43 : decode cX6_takeWord 43 = .ok (.iadd, 1) := by decide +kernel
theorem dX6_takeWord_44 : decode cX6_takeWord 44 = .ok (.invokevirtual 81, 3) := by decide +kernel
theorem dX6_takeWord_47 : decode cX6_takeWord 47 = .ok (.invokevirtual 85, 3) := by decide +kernel
theorem dX6_takeWord_50 : decode cX6_takeWord 50 = .ok (.iinc 4 1, 3) := by decide +kernel
theorem dX6_takeWord_53 : decode cX6_takeWord 53 = .ok (.goto (-34), 3) := by decide +kernel
theorem dX6_takeWord_56 : decode cX6_takeWord 56 = .ok (.aload_n 0, 1) := by decide +kernel
theorem dX6_takeWord_57 : decode cX6_takeWord 57 = .ok (.getfield 42, 3) := by decide +kernel
theorem dX6_takeWord_60 : decode cX6_takeWord 60 = .ok (.aload_n 0, 1) := by decide +kernel
theorem dX6_takeWord_61 : decode cX6_takeWord 61 = .ok (.getfield 39, 3) := by decide +kernel
theorem dX6_takeWord_64 : decode cX6_takeWord 64 = .ok (.iload_n 3, 1) := by decide +kernel
theorem dX6_takeWord_65 : decode cX6_takeWord 65 = .ok (.invokevirtual 85, 3) := by decide +kernel
theorem dX6_takeWord_68 : decode cX6_takeWord 68 = .ok (.aload_n 0, 1) := by decide +kernel
theorem dX6_takeWord_69 : decode cX6_takeWord 69 = .ok (.getfield 36, 3) := by decide +kernel
theorem dX6_takeWord_72 : decode cX6_takeWord 72 = .ok (.aload_n 0, 1) := by decide +kernel
theorem dX6_takeWord_73 : decode cX6_takeWord 73 = .ok (.getfield 30, 3) := by decide +kernel
theorem dX6_takeWord_76 : decode cX6_takeWord 76 = .ok (.iconst 1, 1) := by decide +kernel
theorem dX6_takeWord_77 : decode cX6_takeWord 77 = .ok (.isub, 1) := by decide +kernel
theorem dX6_takeWord_78 : decode cX6_takeWord 78 = .ok (.aload_n 0, 1) := by decide +kernel
theorem dX6_takeWord_79 : decode cX6_takeWord 79 = .ok (.getfield 36, 3) := by decide +kernel
theorem dX6_takeWord_82 : decode cX6_takeWord 82 = .ok (.aload_n 0, 1) := by decide +kernel
theorem dX6_takeWord_83 : decode cX6_takeWord 83 = .ok (.getfield 30, 3) := by decide +kernel
theorem dX6_takeWord_86 : decode cX6_takeWord 86 = .ok (.iconst 1, 1) := by decide +kernel
theorem dX6_takeWord_87 : decode cX6_takeWord 87 = .ok (.isub, 1) := by decide +kernel
theorem dX6_takeWord_88 : decode cX6_takeWord 88 = .ok (.invokevirtual 81, 3) := by decide +kernel
theorem dX6_takeWord_91 : decode cX6_takeWord 91 = .ok (.iconst 1, 1) := by decide +kernel
theorem dX6_takeWord_92 : decode cX6_takeWord 92 = .ok (.iadd, 1) := by decide +kernel
theorem dX6_takeWord_93 : decode cX6_takeWord 93 = .ok (.invokevirtual 85, 3) := by decide +kernel
theorem dX6_takeWord_96 : decode cX6_takeWord 96 = .ok (.aload_n 0, 1) := by decide +kernel
theorem dX6_takeWord_97 : decode cX6_takeWord 97 = .ok (.dup, 1) := by decide +kernel
theorem dX6_takeWord_98 : decode cX6_takeWord 98 = .ok (.getfield 39, 3) := by decide +kernel
theorem dX6_takeWord_101 : decode cX6_takeWord 101 = .ok (.iconst 1, 1) := by decide +kernel
theorem dX6_takeWord_102 : decode cX6_takeWord 102 = .ok (.iadd, 1) := by decide +kernel
theorem dX6_takeWord_103 : decode cX6_takeWord 103 = .ok (.putfield 39, 3) := by decide +kernel
theorem dX6_takeWord_106 : decode cX6_takeWord 106 = .ok (.return_, 1) := by decide +kernel
theorem dX6_takePart_0 : decode cX6_takePart 0 = .ok (.aload_n 1, 1) := by decide +kernel
theorem dX6_takePart_1 : decode cX6_takePart 1 = .ok (.iload_n 2, 1) := by decide +kernel
theorem dX6_takePart_2 : decode cX6_takePart 2 = .ok (.invokevirtual 101, 3) := by decide +kernel
theorem dX6_takePart_5 : decode cX6_takePart 5 = .ok (.istore_n 3, 1) := by decide +kernel
theorem dX6_takePart_6 : decode cX6_takePart 6 = .ok (.iload_n 3, 1) := by decide +kernel
theorem dX6_takePart_7 : decode cX6_takePart 7 = .ok (.aload_n 1, 1) := by decide +kernel
theorem dX6_takePart_8 : decode cX6_takePart 8 = .ok (.getfield 36, 3) := by decide +kernel
theorem dX6_takePart_11 : decode cX6_takePart 11 = .ok (.iload_n 2, 1) := by decide +kernel
theorem dX6_takePart_12 : decode cX6_takePart 12 = .ok (.invokevirtual 81, 3) := by decide +kernel
theorem dX6_takePart_15 : decode cX6_takePart 15 = .ok (.iadd, 1) := by decide +kernel
theorem dX6_takePart_16 : decode cX6_takePart 16 = .ok (.istore 4, 2) := by decide +kernel
theorem dX6_takePart_18 : decode cX6_takePart 18 = .ok (.aload_n 0, 1) := by decide +kernel
theorem dX6_takePart_19 : decode cX6_takePart 19 = .ok (.aload_n 1, 1) := by decide +kernel
theorem dX6_takePart_20 : decode cX6_takePart 20 = .ok (.getfield 33, 3) := by decide +kernel
theorem dX6_takePart_23 : decode cX6_takePart 23 = .ok (.iload_n 2, 1) := by decide +kernel
theorem dX6_takePart_24 : decode cX6_takePart 24 = .ok (.invokevirtual 81, 3) := by decide +kernel
theorem dX6_takePart_27 : decode cX6_takePart 27 = .ok (.invokevirtual 104, 3) := by decide +kernel
theorem dX6_takePart_30 : decode cX6_takePart 30 = .ok (.iload_n 3, 1) := by decide +kernel
theorem dX6_takePart_31 : decode cX6_takePart 31 = .ok (.istore 5, 2) := by decide +kernel
theorem dX6_takePart_33 : decode cX6_takePart 33 = .ok (.iload 5, 2) := by decide +kernel
theorem dX6_takePart_35 : decode cX6_takePart 35 = .ok (.iload 4, 2) := by decide +kernel
theorem dX6_takePart_37 : decode cX6_takePart 37 = .ok (.if_icmp .ge 31, 3) := by decide +kernel
theorem dX6_takePart_40 : decode cX6_takePart 40 = .ok (.aload_n 0, 1) := by decide +kernel
theorem dX6_takePart_41 : decode cX6_takePart 41 = .ok (.aload_n 1, 1) := by decide +kernel
theorem dX6_takePart_42 : decode cX6_takePart 42 = .ok (.getfield 45, 3) := by decide +kernel
theorem dX6_takePart_45 : decode cX6_takePart 45 = .ok (.iload 5, 2) := by decide +kernel
theorem dX6_takePart_47 : decode cX6_takePart 47 = .ok (.bipush 12, 2) := by decide +kernel
theorem dX6_takePart_49 : decode cX6_takePart 49 = .ok (.imul, 1) := by decide +kernel
theorem dX6_takePart_50 : decode cX6_takePart 50 = .ok (.aload_n 1, 1) := by decide +kernel
theorem dX6_takePart_51 : decode cX6_takePart 51 = .ok (.getfield 42, 3) := by decide +kernel
theorem dX6_takePart_54 : decode cX6_takePart 54 = .ok (.iload 5, 2) := by decide +kernel
theorem dX6_takePart_56 : decode cX6_takePart 56 = .ok (.invokevirtual 81, 3) := by decide +kernel
theorem dX6_takePart_59 : decode cX6_takePart 59 = .ok (.invokevirtual 107, 3) := by decide +kernel
theorem dX6_takePart_62 : decode cX6_takePart 62 = .ok (.iinc 5 1, 3) := by decide +kernel
theorem dX6_takePart_65 : decode cX6_takePart 65 = .ok (.goto (-32), 3) := by decide +kernel
theorem dX6_takePart_68 : decode cX6_takePart 68 = .ok (.return_, 1) := by decide +kernel
theorem dX6_byteOf_0 : decode cX6_byteOf 0 = .ok (.aload_n 0, 1) := by decide +kernel
theorem dX6_byteOf_1 : decode cX6_byteOf 1 = .ok (.getfield 45, 3) := by decide +kernel
theorem dX6_byteOf_4 : decode cX6_byteOf 4 = .ok (.iload_n 1, 1) := by decide +kernel
theorem dX6_byteOf_5 : decode cX6_byteOf 5 = .ok (.bipush 12, 2) := by decide +kernel
theorem dX6_byteOf_7 : decode cX6_byteOf 7 = .ok (.imul, 1) := by decide +kernel
theorem dX6_byteOf_8 : decode cX6_byteOf 8 = .ok (.iload_n 2, 1) := by decide +kernel
theorem dX6_byteOf_9 : decode cX6_byteOf 9 = .ok (.iadd, 1) := by decide +kernel
theorem dX6_byteOf_10 : decode cX6_byteOf 10 = .ok (.invokevirtual 81, 3) := by decide +kernel
theorem dX6_byteOf_13 : decode cX6_byteOf 13 = .ok (.ireturn, 1) := by decide +kernel
theorem dX6_sameWord_0 : decode cX6_sameWord 0 = .ok (.aload_n 0, 1) := by decide +kernel
theorem dX6_sameWord_1 : decode cX6_sameWord 1 = .ok (.getfield 42, 3) := by decide +kernel
theorem dX6_sameWord_4 : decode cX6_sameWord 4 = .ok (.iload_n 2, 1) := by decide +kernel
theorem dX6_sameWord_5 : decode cX6_sameWord 5 = .ok (.invokevirtual 81, 3) := by decide +kernel
theorem dX6_sameWord_8 : decode cX6_sameWord 8 = .ok (.aload_n 1, 1) := by decide +kernel
theorem dX6_sameWord_9 : decode cX6_sameWord 9 = .ok (.getfield 42, 3) := by decide +kernel
theorem dX6_sameWord_12 : decode cX6_sameWord 12 = .ok (.iload_n 2, 1) := by decide +kernel
theorem dX6_sameWord_13 : decode cX6_sameWord 13 = .ok (.invokevirtual 81, 3) := by decide +kernel
theorem dX6_sameWord_16 : decode cX6_sameWord 16 = .ok (.if_icmp .eq 5, 3) := by decide +kernel
theorem dX6_sameWord_19 : decode cX6_sameWord 19 = .ok (.iconst 0, 1) := by decide +kernel
theorem dX6_sameWord_20 : decode cX6_sameWord 20 = .ok (.ireturn, 1) := by decide +kernel
theorem dX6_sameWord_21 : decode cX6_sameWord 21 = .ok (.iconst 0, 1) := by decide +kernel
theorem dX6_sameWord_22 : decode cX6_sameWord 22 = .ok (.istore_n 3, 1) := by decide +kernel
theorem dX6_sameWord_23 : decode cX6_sameWord 23 = .ok (.iload_n 3, 1) := by decide +kernel
theorem dX6_sameWord_24 : decode cX6_sameWord 24 = .ok (.aload_n 0, 1) := by decide +kernel
theorem dX6_sameWord_25 : decode cX6_sameWord 25 = .ok (.getfield 42, 3) := by decide +kernel
theorem dX6_sameWord_28 : decode cX6_sameWord 28 = .ok (.iload_n 2, 1) := by decide +kernel
theorem dX6_sameWord_29 : decode cX6_sameWord 29 = .ok (.invokevirtual 81, 3) := by decide +kernel
theorem dX6_sameWord_32 : decode cX6_sameWord 32 = .ok (.if_icmp .ge 26, 3) := by decide +kernel
theorem dX6_sameWord_35 : decode cX6_sameWord 35 = .ok (.aload_n 0, 1) := by decide +kernel
theorem dX6_sameWord_36 : decode cX6_sameWord 36 = .ok (.iload_n 2, 1) := by decide +kernel
theorem dX6_sameWord_37 : decode cX6_sameWord 37 = .ok (.iload_n 3, 1) := by decide +kernel
theorem dX6_sameWord_38 : decode cX6_sameWord 38 = .ok (.invokevirtual 111, 3) := by decide +kernel
theorem dX6_sameWord_41 : decode cX6_sameWord 41 = .ok (.aload_n 1, 1) := by decide +kernel
theorem dX6_sameWord_42 : decode cX6_sameWord 42 = .ok (.iload_n 2, 1) := by decide +kernel
theorem dX6_sameWord_43 : decode cX6_sameWord 43 = .ok (.iload_n 3, 1) := by decide +kernel
theorem dX6_sameWord_44 : decode cX6_sameWord 44 = .ok (.invokevirtual 111, 3) := by decide +kernel
theorem dX6_sameWord_47 : decode cX6_sameWord 47 = .ok (.if_icmp .eq 5, 3) := by decide +kernel
theorem dX6_sameWord_50 : decode cX6_sameWord 50 = .ok (.iconst 0, 1) := by decide +kernel
theorem dX6_sameWord_51 : decode cX6_sameWord 51 = .ok (.ireturn, 1) := by decide +kernel
theorem dX6_sameWord_52 : decode cX6_sameWord 52 = .ok (.iinc 3 1, 3) := by decide +kernel
theorem dX6_sameWord_55 : decode cX6_sameWord 55 = .ok (.goto (-32), 3) := by decide +kernel
theorem dX6_sameWord_58 : decode cX6_sameWord 58 = .ok (.iconst 1, 1) := by decide +kernel
theorem dX6_sameWord_59 : decode cX6_sameWord 59 = .ok (.ireturn, 1) := by decide +kernel
theorem dX6_firstOf_0 : decode cX6_firstOf 0 = .ok (.iconst 0, 1) := by decide +kernel
theorem dX6_firstOf_1 : decode cX6_firstOf 1 = .ok (.istore_n 2, 1) := by decide +kernel
theorem dX6_firstOf_2 : decode cX6_firstOf 2 = .ok (.iconst 0, 1) := by decide +kernel
theorem dX6_firstOf_3 : decode cX6_firstOf 3 = .ok (.istore_n 3, 1) := by decide +kernel
theorem dX6_firstOf_4 : decode cX6_firstOf 4 = .ok (.iload_n 3, 1) := by decide +kernel
theorem dX6_firstOf_5 : decode cX6_firstOf 5 = .ok (.iload_n 1, 1) := by decide +kernel
theorem dX6_firstOf_6 : decode cX6_firstOf 6 = .ok (.if_icmp .ge 20, 3) := by decide +kernel
theorem dX6_firstOf_9 : decode cX6_firstOf 9 = .ok (.iload_n 2, 1) := by decide +kernel
theorem dX6_firstOf_10 : decode cX6_firstOf 10 = .ok (.aload_n 0, 1) := by decide +kernel
theorem dX6_firstOf_11 : decode cX6_firstOf 11 = .ok (.getfield 36, 3) := by decide +kernel
theorem dX6_firstOf_14 : decode cX6_firstOf 14 = .ok (.iload_n 3, 1) := by decide +kernel
theorem dX6_firstOf_15 : decode cX6_firstOf 15 = .ok (.invokevirtual 81, 3) := by decide +kernel
theorem dX6_firstOf_18 : decode cX6_firstOf 18 = .ok (.iadd, 1) := by decide +kernel
theorem dX6_firstOf_19 : decode cX6_firstOf 19 = .ok (.istore_n 2, 1) := by decide +kernel
theorem dX6_firstOf_20 : decode cX6_firstOf 20 = .ok (.iinc 3 1, 3) := by decide +kernel
theorem dX6_firstOf_23 : decode cX6_firstOf 23 = .ok (.goto (-19), 3) := by decide +kernel
theorem dX6_firstOf_26 : decode cX6_firstOf 26 = .ok (.iload_n 2, 1) := by decide +kernel
theorem dX6_firstOf_27 : decode cX6_firstOf 27 = .ok (.ireturn, 1) := by decide +kernel
theorem dX6_partOf_0 : decode cX6_partOf 0 = .ok (.iconst 0, 1) := by decide +kernel
theorem dX6_partOf_1 : decode cX6_partOf 1 = .ok (.istore_n 2, 1) := by decide +kernel
theorem dX6_partOf_2 : decode cX6_partOf 2 = .ok (.aload_n 0, 1) := by decide +kernel
theorem dX6_partOf_3 : decode cX6_partOf 3 = .ok (.getfield 36, 3) := by decide +kernel
theorem dX6_partOf_6 : decode cX6_partOf 6 = .ok (.iconst 0, 1) := by decide +kernel
theorem dX6_partOf_7 : decode cX6_partOf 7 = .ok (.invokevirtual 81, 3) := by decide +kernel
theorem dX6_partOf_10 : decode cX6_partOf 10 = .ok (.istore_n 3, 1) := by decide +kernel
theorem dX6_partOf_11 : decode cX6_partOf 11 = .ok (.iload_n 2, 1) := by decide +kernel
theorem dX6_partOf_12 : decode cX6_partOf 12 = .ok (.aload_n 0, 1) := by decide +kernel
theorem dX6_partOf_13 : decode cX6_partOf 13 = .ok (.getfield 30, 3) := by decide +kernel
theorem dX6_partOf_16 : decode cX6_partOf 16 = .ok (.iconst 1, 1) := by decide +kernel
theorem dX6_partOf_17 : decode cX6_partOf 17 = .ok (.isub, 1) := by decide +kernel
theorem dX6_partOf_18 : decode cX6_partOf 18 = .ok (.if_icmp .ge 25, 3) := by decide +kernel
theorem dX6_partOf_21 : decode cX6_partOf 21 = .ok (.iload_n 3, 1) := by decide +kernel
theorem dX6_partOf_22 : decode cX6_partOf 22 = .ok (.iload_n 1, 1) := by decide +kernel
theorem dX6_partOf_23 : decode cX6_partOf 23 = .ok (.if_icmp .gt 20, 3) := by decide +kernel
theorem dX6_partOf_26 : decode cX6_partOf 26 = .ok (.iinc 2 1, 3) := by decide +kernel
theorem dX6_partOf_29 : decode cX6_partOf 29 = .ok (.iload_n 3, 1) := by decide +kernel
theorem dX6_partOf_30 : decode cX6_partOf 30 = .ok (.aload_n 0, 1) := by decide +kernel
theorem dX6_partOf_31 : decode cX6_partOf 31 = .ok (.getfield 36, 3) := by decide +kernel
theorem dX6_partOf_34 : decode cX6_partOf 34 = .ok (.iload_n 2, 1) := by decide +kernel
theorem dX6_partOf_35 : decode cX6_partOf 35 = .ok (.invokevirtual 81, 3) := by decide +kernel
theorem dX6_partOf_38 : decode cX6_partOf 38 = .ok (.iadd, 1) := by decide +kernel
theorem dX6_partOf_39 : decode cX6_partOf 39 = .ok (.istore_n 3, 1) := by decide +kernel
theorem dX6_partOf_40 : decode cX6_partOf 40 = .ok (.goto (-29), 3) := by decide +kernel
theorem dX6_partOf_43 : decode cX6_partOf 43 = .ok (.iload_n 2, 1) := by decide +kernel
theorem dX6_partOf_44 : decode cX6_partOf 44 = .ok (.ireturn, 1) := by decide +kernel
theorem dX6_lettersAhead_0 : decode cX6_lettersAhead 0 = .ok (.iconst 0, 1) := by decide +kernel
theorem dX6_lettersAhead_1 : decode cX6_lettersAhead 1 = .ok (.istore_n 2, 1) := by decide +kernel
theorem dX6_lettersAhead_2 : decode cX6_lettersAhead 2 = .ok (.iconst 0, 1) := by decide +kernel
theorem dX6_lettersAhead_3 : decode cX6_lettersAhead 3 = .ok (.istore_n 3, 1) := by decide +kernel
theorem dX6_lettersAhead_4 : decode cX6_lettersAhead 4 = .ok (.iload_n 3, 1) := by decide +kernel
theorem dX6_lettersAhead_5 : decode cX6_lettersAhead 5 = .ok (.iload_n 1, 1) := by decide +kernel
theorem dX6_lettersAhead_6 : decode cX6_lettersAhead 6 = .ok (.if_icmp .ge 20, 3) := by decide +kernel
theorem dX6_lettersAhead_9 : decode cX6_lettersAhead 9 = .ok (.iload_n 2, 1) := by decide +kernel
theorem dX6_lettersAhead_10 : decode cX6_lettersAhead 10 = .ok (.aload_n 0, 1) := by decide +kernel
theorem dX6_lettersAhead_11 : decode cX6_lettersAhead 11 = .ok (.getfield 42, 3) := by decide +kernel
theorem dX6_lettersAhead_14 : decode cX6_lettersAhead 14 = .ok (.iload_n 3, 1) := by decide +kernel
theorem dX6_lettersAhead_15 : decode cX6_lettersAhead 15 = .ok (.invokevirtual 81, 3) := by decide +kernel
theorem dX6_lettersAhead_18 : decode cX6_lettersAhead 18 = .ok (.iadd, 1) := by decide +kernel
theorem dX6_lettersAhead_19 : decode cX6_lettersAhead 19 = .ok (.istore_n 2, 1) := by decide +kernel
theorem dX6_lettersAhead_20 : decode cX6_lettersAhead 20 = .ok (.iinc 3 1, 3) := by decide +kernel
theorem dX6_lettersAhead_23 : decode cX6_lettersAhead 23 = .ok (.goto (-19), 3) := by decide +kernel
theorem dX6_lettersAhead_26 : decode cX6_lettersAhead 26 = .ok (.iload_n 2, 1) := by decide +kernel
theorem dX6_lettersAhead_27 : decode cX6_lettersAhead 27 = .ok (.ireturn, 1) := by decide +kernel
theorem dX6_strokesOn_0 : decode cX6_strokesOn 0 = .ok (.iload_n 1, 1) := by decide +kernel
theorem dX6_strokesOn_1 : decode cX6_strokesOn 1 = .ok (.bipush 48, 2) := by decide +kernel
theorem dX6_strokesOn_3 : decode cX6_strokesOn 3 = .ok (.if_icmp .lt 13, 3) := by decide +kernel
theorem dX6_strokesOn_6 : decode cX6_strokesOn 6 = .ok (.iload_n 1, 1) := by decide +kernel
theorem dX6_strokesOn_7 : decode cX6_strokesOn 7 = .ok (.bipush 57, 2) := by decide +kernel
theorem dX6_strokesOn_9 : decode cX6_strokesOn 9 = .ok (.if_icmp .gt 7, 3) := by decide +kernel
theorem dX6_strokesOn_12 : decode cX6_strokesOn 12 = .ok (.iconst 1, 1) := by decide +kernel
theorem dX6_strokesOn_13 : decode cX6_strokesOn 13 = .ok (.goto 4, 3) := by decide +kernel
theorem dX6_strokesOn_16 : decode cX6_strokesOn 16 = .ok (.iconst 0, 1) := by decide +kernel
theorem dX6_strokesOn_17 : decode cX6_strokesOn 17 = .ok (.istore 4, 2) := by decide +kernel
theorem dX6_strokesOn_19 : decode cX6_strokesOn 19 = .ok (.iload 4, 2) := by decide +kernel
theorem dX6_strokesOn_21 : decode cX6_strokesOn 21 = .ok (.ifCond .eq 14, 3) := by decide +kernel
theorem dX6_strokesOn_24 : decode cX6_strokesOn 24 = .ok (.iconst 2, 1) := by decide +kernel
theorem dX6_strokesOn_25 : decode cX6_strokesOn 25 = .ok (.iload_n 1, 1) := by decide +kernel
theorem dX6_strokesOn_26 : decode cX6_strokesOn 26 = .ok (.bipush 48, 2) := by decide +kernel
theorem dX6_strokesOn_28 : decode cX6_strokesOn 28 = .ok (.isub, 1) := by decide +kernel
theorem dX6_strokesOn_29 : decode cX6_strokesOn 29 = .ok (.iconst 3, 1) := by decide +kernel
theorem dX6_strokesOn_30 : decode cX6_strokesOn 30 = .ok (.irem, 1) := by decide +kernel
theorem dX6_strokesOn_31 : decode cX6_strokesOn 31 = .ok (.iadd, 1) := by decide +kernel
theorem dX6_strokesOn_32 : decode cX6_strokesOn 32 = .ok (.goto 14, 3) := by decide +kernel
theorem dX6_strokesOn_35 : decode cX6_strokesOn 35 = .ok (.iconst 1, 1) := by decide +kernel
theorem dX6_strokesOn_36 : decode cX6_strokesOn 36 = .ok (.bipush 7, 2) := by decide +kernel
theorem dX6_strokesOn_38 : decode cX6_strokesOn 38 = .ok (.iload_n 1, 1) := by decide +kernel
theorem dX6_strokesOn_39 : decode cX6_strokesOn 39 = .ok (.bipush 97, 2) := by decide +kernel
theorem dX6_strokesOn_41 : decode cX6_strokesOn 41 = .ok (.isub, 1) := by decide +kernel
theorem dX6_strokesOn_42 : decode cX6_strokesOn 42 = .ok (.imul, 1) := by decide +kernel
theorem dX6_strokesOn_43 : decode cX6_strokesOn 43 = .ok (.iconst 5, 1) := by decide +kernel
theorem dX6_strokesOn_44 : decode cX6_strokesOn 44 = .ok (.irem, 1) := by decide +kernel
theorem dX6_strokesOn_45 : decode cX6_strokesOn 45 = .ok (.iadd, 1) := by decide +kernel
theorem dX6_strokesOn_46 : decode cX6_strokesOn 46 = .ok (.istore 5, 2) := by decide +kernel
theorem dX6_strokesOn_48 : decode cX6_strokesOn 48 = .ok (.aload_n 0, 1) := by decide +kernel
theorem dX6_strokesOn_49 : decode cX6_strokesOn 49 = .ok (.iload_n 2, 1) := by decide +kernel
theorem dX6_strokesOn_50 : decode cX6_strokesOn 50 = .ok (.iload_n 3, 1) := by decide +kernel
theorem dX6_strokesOn_51 : decode cX6_strokesOn 51 = .ok (.invokevirtual 115, 3) := by decide +kernel
theorem dX6_strokesOn_54 : decode cX6_strokesOn 54 = .ok (.ifCond .eq 10, 3) := by decide +kernel
theorem dX6_strokesOn_57 : decode cX6_strokesOn 57 = .ok (.iconst 2, 1) := by decide +kernel
theorem dX6_strokesOn_58 : decode cX6_strokesOn 58 = .ok (.iload 5, 2) := by decide +kernel
theorem dX6_strokesOn_60 : decode cX6_strokesOn 60 = .ok (.imul, 1) := by decide +kernel
theorem dX6_strokesOn_61 : decode cX6_strokesOn 61 = .ok (.goto 5, 3) := by decide +kernel
theorem dX6_strokesOn_64 : decode cX6_strokesOn 64 = .ok (.iload 5, 2) := by decide +kernel
theorem dX6_strokesOn_66 : decode cX6_strokesOn 66 = .ok (.ireturn, 1) := by decide +kernel
theorem dX7_init_0 : decode cX7_init 0 = .ok (.aload_n 0, 1) := by decide +kernel
theorem dX7_init_1 : decode cX7_init 1 = .ok (.invokespecial 3, 3) := by decide +kernel
theorem dX7_init_4 : decode cX7_init 4 = .ok (.aload_n 0, 1) := by decide +kernel
theorem dX7_init_5 : decode cX7_init 5 = .ok (.iconst 0, 1) := by decide +kernel
theorem dX7_init_6 : decode cX7_init 6 = .ok (.putfield 11, 3) := by decide +kernel
theorem dX7_init_9 : decode cX7_init 9 = .ok (.aload_n 0, 1) := by decide +kernel
theorem dX7_init_10 : decode cX7_init 10 = .ok (.iconst 0, 1) := by decide +kernel
theorem dX7_init_11 : decode cX7_init 11 = .ok (.putfield 15, 3) := by decide +kernel
theorem dX7_init_14 : decode cX7_init 14 = .ok (.aload_n 0, 1) := by decide +kernel
theorem dX7_init_15 : decode cX7_init 15 = .ok (.iconst 0, 1) := by decide +kernel
theorem dX7_init_16 : decode cX7_init 16 = .ok (.putfield 18, 3) := by decide +kernel
theorem dX7_init_19 : decode cX7_init 19 = .ok (.aload_n 0, 1) := by decide +kernel
theorem dX7_init_20 : decode cX7_init 20 = .ok (.aload_n 1, 1) := by decide +kernel
theorem dX7_init_21 : decode cX7_init 21 = .ok (.putfield 21, 3) := by decide +kernel
theorem dX7_init_24 : decode cX7_init 24 = .ok (.return_, 1) := by decide +kernel
theorem dX7_restart_0 : decode cX7_restart 0 = .ok (.aload_n 0, 1) := by decide +kernel
theorem dX7_restart_1 : decode cX7_restart 1 = .ok (.iconst 0, 1) := by decide +kernel
theorem dX7_restart_2 : decode cX7_restart 2 = .ok (.putfield 15, 3) := by decide +kernel
theorem dX7_restart_5 : decode cX7_restart 5 = .ok (.aload_n 0, 1) := by decide +kernel
theorem dX7_restart_6 : decode cX7_restart 6 = .ok (.iconst 0, 1) := by decide +kernel
theorem dX7_restart_7 : decode cX7_restart 7 = .ok (.putfield 18, 3) := by decide +kernel
theorem dX7_restart_10 : decode cX7_restart 10 = .ok (.aload_n 0, 1) := by decide +kernel
theorem dX7_restart_11 : decode cX7_restart 11 = .ok (.invokevirtual 25, 3) := by decide +kernel
theorem dX7_restart_14 : decode cX7_restart 14 = .ok (.return_, 1) := by decide +kernel
theorem dX7_step_0 : decode cX7_step 0 = .ok (.aload_n 0, 1) := by decide +kernel
theorem dX7_step_1 : decode cX7_step 1 = .ok (.getfield 15, 3) := by decide +kernel
theorem dX7_step_4 : decode cX7_step 4 = .ok (.aload_n 0, 1) := by decide +kernel
theorem dX7_step_5 : decode cX7_step 5 = .ok (.getfield 18, 3) := by decide +kernel
theorem dX7_step_8 : decode cX7_step 8 = .ok (.iadd, 1) := by decide +kernel
theorem dX7_step_9 : decode cX7_step 9 = .ok (.istore_n 1, 1) := by decide +kernel
theorem dX7_step_10 : decode cX7_step 10 = .ok (.iload_n 1, 1) := by decide +kernel
theorem dX7_step_11 : decode cX7_step 11 = .ok (.aload_n 0, 1) := by decide +kernel
theorem dX7_step_12 : decode cX7_step 12 = .ok (.getfield 21, 3) := by decide +kernel
theorem dX7_step_15 : decode cX7_step 15 = .ok (.getfield 28, 3) := by decide +kernel
theorem dX7_step_18 : decode cX7_step 18 = .ok (.if_icmp .ge 41, 3) := by decide +kernel
theorem dX7_step_21 : decode cX7_step 21 = .ok (.aload_n 0, 1) := by decide +kernel
theorem dX7_step_22 : decode cX7_step 22 = .ok (.getfield 21, 3) := by decide +kernel
theorem dX7_step_25 : decode cX7_step 25 = .ok (.getfield 31, 3) := by decide +kernel
theorem dX7_step_28 : decode cX7_step 28 = .ok (.iload_n 1, 1) := by decide +kernel
theorem dX7_step_29 : decode cX7_step 29 = .ok (.invokevirtual 35, 3) := by decide +kernel
theorem dX7_step_32 : decode cX7_step 32 = .ok (.bipush 32, 2) := by decide +kernel
theorem dX7_step_34 : decode cX7_step 34 = .ok (.if_icmp .eq 19, 3) := by decide +kernel
theorem dX7_step_37 : decode cX7_step 37 = .ok (.aload_n 0, 1) := by decide +kernel
theorem dX7_step_38 : decode cX7_step 38 = .ok (.getfield 21, 3) := by decide +kernel
theorem dX7_step_41 : decode cX7_step 41 = .ok (.getfield 31, 3) := by decide +kernel
theorem dX7_step_44 : decode cX7_step 44 = .ok (.iload_n 1, 1) := by decide +kernel
theorem dX7_step_45 : decode cX7_step 45 = .ok (.invokevirtual 35, 3) := by decide +kernel
theorem dX7_step_48 : decode cX7_step 48 = .ok (.bipush 10, 2) := by decide +kernel
theorem dX7_step_50 : decode cX7_step 50 = .ok (.if_icmp .ne 9, 3) := by decide +kernel
theorem dX7_step_53 : decode cX7_step 53 = .ok (.iinc 1 1, 3) := by decide +kernel
theorem dX7_step_56 : decode cX7_step 56 = .ok (.goto (-46), 3) := by decide +kernel
theorem dX7_step_59 : decode cX7_step 59 = .ok (.aload_n 0, 1) := by decide +kernel
theorem dX7_step_60 : decode cX7_step 60 = .ok (.iload_n 1, 1) := by decide +kernel
theorem dX7_step_61 : decode cX7_step 61 = .ok (.putfield 15, 3) := by decide +kernel
theorem dX7_step_64 : decode cX7_step 64 = .ok (.iload_n 1, 1) := by decide +kernel
theorem dX7_step_65 : decode cX7_step 65 = .ok (.aload_n 0, 1) := by decide +kernel
theorem dX7_step_66 : decode cX7_step 66 = .ok (.getfield 21, 3) := by decide +kernel
theorem dX7_step_69 : decode cX7_step 69 = .ok (.getfield 28, 3) := by decide +kernel
theorem dX7_step_72 : decode cX7_step 72 = .ok (.if_icmp .lt 14, 3) := by decide +kernel
theorem dX7_step_75 : decode cX7_step 75 = .ok (.aload_n 0, 1) := by decide +kernel
theorem dX7_step_76 : decode cX7_step 76 = .ok (.iconst 0, 1) := by decide +kernel
theorem dX7_step_77 : decode cX7_step 77 = .ok (.putfield 11, 3) := by decide +kernel
theorem dX7_step_80 : decode cX7_step 80 = .ok (.aload_n 0, 1) := by decide +kernel
theorem dX7_step_81 : decode cX7_step 81 = .ok (.iconst 0, 1) := by decide +kernel
theorem dX7_step_82 : decode cX7_step 82 = .ok (.putfield 18, 3) := by decide +kernel
theorem dX7_step_85 : decode cX7_step 85 = .ok (.return_, 1) := by decide +kernel
theorem dX7_step_86 : decode cX7_step 86 = .ok (.aload_n 0, 1) := by decide +kernel
theorem dX7_step_87 : decode cX7_step 87 = .ok (.aload_n 0, 1) := by decide +kernel
theorem dX7_step_88 : decode cX7_step 88 = .ok (.getfield 21, 3) := by decide +kernel
theorem dX7_step_91 : decode cX7_step 91 = .ok (.getfield 31, 3) := by decide +kernel
theorem dX7_step_94 : decode cX7_step 94 = .ok (.iload_n 1, 1) := by decide +kernel
theorem dX7_step_95 : decode cX7_step 95 = .ok (.invokevirtual 35, 3) := by decide +kernel
theorem dX7_step_98 : decode cX7_step 98 = .ok (.invokestatic 41, 3) := by decide +kernel
theorem dX7_step_101 : decode cX7_step 101 = .ok (.putfield 11, 3) := by decide +kernel
theorem dX7_step_104 : decode cX7_step 104 = .ok (.iinc 1 1, 3) := by decide +kernel
theorem dX7_step_107 : decode cX7_step 107 = .ok (.iload_n 1, 1) := by decide +kernel
theorem dX7_step_108 : decode cX7_step 108 = .ok (.aload_n 0, 1) := by decide +kernel
theorem dX7_step_109 : decode cX7_step 109 = .ok (.getfield 21, 3) := by decide +kernel
theorem dX7_step_112 : decode cX7_step 112 = .ok (.getfield 28, 3) := by decide +kernel
theorem dX7_step_115 : decode cX7_step 115 = .ok (.if_icmp .ge 38, 3) := by decide +kernel
theorem dX7_step_118 : decode cX7_step 118 = .ok (.aload_n 0, 1) := by decide +kernel
theorem dX7_step_119 : decode cX7_step 119 = .ok (.getfield 11, 3) := by decide +kernel
theorem dX7_step_122 : decode cX7_step 122 = .ok (.iconst 3, 1) := by decide +kernel
theorem dX7_step_123 : decode cX7_step 123 = .ok (.if_icmp .eq 30, 3) := by decide +kernel
theorem dX7_step_126 : decode cX7_step 126 = .ok (.aload_n 0, 1) := by decide +kernel
theorem dX7_step_127 : decode cX7_step 127 = .ok (.getfield 21, 3) := by decide +kernel
theorem dX7_step_130 : decode cX7_step 130 = .ok (.getfield 31, 3) := by decide +kernel
theorem dX7_step_133 : decode cX7_step 133 = .ok (.iload_n 1, 1) := by decide +kernel
theorem dX7_step_134 : decode cX7_step 134 = .ok (.invokevirtual 35, 3) := by decide +kernel
theorem dX7_step_137 : decode cX7_step 137 = .ok (.invokestatic 41, 3) := by decide +kernel
theorem dX7_step_140 : decode cX7_step 140 = .ok (.aload_n 0, 1) := by decide +kernel
theorem dX7_step_141 : decode cX7_step 141 = .ok (.getfield 11, 3) := by decide +kernel
theorem dX7_step_144 : decode cX7_step 144 = .ok (.if_icmp .ne 9, 3) := by decide +kernel
theorem dX7_step_147 : decode cX7_step 147 = .ok (.iinc 1 1, 3) := by decide +kernel
theorem dX7_step_150 : decode cX7_step 150 = .ok (.goto (-43), 3) := by decide +kernel
theorem dX7_step_153 : decode cX7_step 153 = .ok (.aload_n 0, 1) := by decide +kernel
theorem dX7_step_154 : decode cX7_step 154 = .ok (.iload_n 1, 1) := by decide +kernel
theorem dX7_step_155 : decode cX7_step 155 = .ok (.aload_n 0, 1) := by decide +kernel
theorem dX7_step_156 : decode cX7_step 156 = .ok (.getfield 15, 3) := by decide +kernel
theorem dX7_step_159 : decode cX7_step 159 = .ok (.isub, 1) := by decide +kernel
theorem dX7_step_160 : decode cX7_step 160 = .ok (.putfield 18, 3) := by decide +kernel
theorem dX7_step_163 : decode cX7_step 163 = .ok (.return_, 1) := by decide +kernel
theorem dX7_kindOf_0 : decode cX7_kindOf 0 = .ok (.iload_n 0, 1) := by decide +kernel
theorem dX7_kindOf_1 : decode cX7_kindOf 1 = .ok (.bipush 97, 2) := by decide +kernel
theorem dX7_kindOf_3 : decode cX7_kindOf 3 = .ok (.if_icmp .lt 11, 3) := by decide +kernel
theorem dX7_kindOf_6 : decode cX7_kindOf 6 = .ok (.iload_n 0, 1) := by decide +kernel
theorem dX7_kindOf_7 : decode cX7_kindOf 7 = .ok (.bipush 122, 2) := by decide +kernel
theorem dX7_kindOf_9 : decode cX7_kindOf 9 = .ok (.if_icmp .gt 5, 3) := by decide +kernel
theorem dX7_kindOf_12 : decode cX7_kindOf 12 = .ok (.iconst 1, 1) := by decide +kernel
theorem dX7_kindOf_13 : decode cX7_kindOf 13 = .ok (.ireturn, 1) := by decide +kernel
theorem dX7_kindOf_14 : decode cX7_kindOf 14 = .ok (.iload_n 0, 1) := by decide +kernel
theorem dX7_kindOf_15 : decode cX7_kindOf 15 = .ok (.bipush 48, 2) := by decide +kernel
theorem dX7_kindOf_17 : decode cX7_kindOf 17 = .ok (.if_icmp .lt 13, 3) := by decide +kernel
theorem dX7_kindOf_20 : decode cX7_kindOf 20 = .ok (.iload_n 0, 1) := by decide +kernel
theorem dX7_kindOf_21 : decode cX7_kindOf 21 = .ok (.bipush 57, 2) := by decide +kernel
theorem dX7_kindOf_23 : decode cX7_kindOf 23 = .ok (.if_icmp .gt 7, 3) := by decide +kernel
theorem dX7_kindOf_26 : decode cX7_kindOf 26 = .ok (.iconst 2, 1) := by decide +kernel
theorem dX7_kindOf_27 : decode cX7_kindOf 27 = .ok (.goto 4, 3) := by decide +kernel
theorem dX7_kindOf_30 : decode cX7_kindOf 30 = .ok (.iconst 3, 1) := by decide +kernel
theorem dX7_kindOf_31 : decode cX7_kindOf 31 = .ok (.ireturn, 1) := by decide +kernel
theorem dX7_says_0 : decode cX7_says 0 = .ok (.aload_n 0, 1) := by decide +kernel
theorem dX7_says_1 : decode cX7_says 1 = .ok (.getfield 18, 3) := by decide +kernel
theorem dX7_says_4 : decode cX7_says 4 = .ok (.aload_n 1, 1) := by decide +kernel
theorem dX7_says_5 : decode cX7_says 5 = .ok (.invokevirtual 44, 3) := by decide +kernel
theorem dX7_says_8 : decode cX7_says 8 = .ok (.if_icmp .eq 5, 3) := by decide +kernel
theorem dX7_says_11 : decode cX7_says 11 = .ok (.iconst 0, 1) := by decide +kernel
theorem dX7_says_12 : decode cX7_says 12 = .ok (.ireturn, 1) := by decide +kernel
theorem dX7_says_13 : decode cX7_says 13 = .ok (.iconst 0, 1) := by decide +kernel
theorem dX7_says_14 : decode cX7_says 14 = .ok (.istore_n 2, 1) := by decide +kernel
theorem dX7_says_15 : decode cX7_says 15 = .ok (.iload_n 2, 1) := by decide +kernel
theorem dX7_says_16 : decode cX7_says 16 = .ok (.aload_n 1, 1) := by decide +kernel
theorem dX7_says_17 : decode cX7_says 17 = .ok (.invokevirtual 44, 3) := by decide +kernel
theorem dX7_says_20 : decode cX7_says 20 = .ok (.if_icmp .ge 35, 3) := by decide +kernel
theorem dX7_says_23 : decode cX7_says 23 = .ok (.aload_n 0, 1) := by decide +kernel
theorem dX7_says_24 : decode cX7_says 24 = .ok (.getfield 21, 3) := by decide +kernel
theorem dX7_says_27 : decode cX7_says 27 = .ok (.getfield 31, 3) := by decide +kernel
theorem dX7_says_30 : decode cX7_says 30 = .ok (.aload_n 0, 1) := by decide +kernel
theorem dX7_says_31 : decode cX7_says 31 = .ok (.getfield 15, 3) := by decide +kernel
theorem dX7_says_34 : decode cX7_says 34 = .ok (.iload_n 2, 1) := by decide +kernel
theorem dX7_says_35 : decode cX7_says 35 = .ok (.iadd, 1) := by decide +kernel
theorem dX7_says_36 : decode cX7_says 36 = .ok (.invokevirtual 35, 3) := by decide +kernel
theorem dX7_says_39 : decode cX7_says 39 = .ok (.aload_n 1, 1) := by decide +kernel
theorem dX7_says_40 : decode cX7_says 40 = .ok (.iload_n 2, 1) := by decide +kernel
theorem dX7_says_41 : decode cX7_says 41 = .ok (.invokevirtual 49, 3) := by decide +kernel
theorem dX7_says_44 : decode cX7_says 44 = .ok (.if_icmp .eq 5, 3) := by decide +kernel
theorem dX7_says_47 : decode cX7_says 47 = .ok (.iconst 0, 1) := by decide +kernel
theorem dX7_says_48 : decode cX7_says 48 = .ok (.ireturn, 1) := by decide +kernel
theorem dX7_says_49 : decode cX7_says 49 = .ok (.iinc 2 1, 3) := by decide +kernel
theorem dX7_says_52 : decode cX7_says 52 = .ok (.goto (-37), 3) := by decide +kernel
theorem dX7_says_55 : decode cX7_says 55 = .ok (.iconst 1, 1) := by decide +kernel
theorem dX7_says_56 : decode cX7_says 56 = .ok (.ireturn, 1) := by decide +kernel
theorem dX7_isPlainWord_0 : decode cX7_isPlainWord 0 = .ok (.aload_n 0, 1) := by decide +kernel
theorem dX7_isPlainWord_1 : decode cX7_isPlainWord 1 = .ok (.getfield 11, 3) := by decide +kernel
theorem dX7_isPlainWord_4 : decode cX7_isPlainWord 4 = .ok (.iconst 1, 1) := by decide +kernel
theorem dX7_isPlainWord_5 : decode cX7_isPlainWord 5 = .ok (.if_icmp .eq 11, 3) := by decide +kernel
theorem dX7_isPlainWord_8 : decode cX7_isPlainWord 8 = .ok (.aload_n 0, 1) := by decide +kernel
theorem dX7_isPlainWord_9 : decode cX7_isPlainWord 9 = .ok (.getfield 11, 3) := by decide +kernel
theorem dX7_isPlainWord_12 : decode cX7_isPlainWord 12 = .ok (.iconst 2, 1) := by decide +kernel
theorem dX7_isPlainWord_13 : decode cX7_isPlainWord 13 = .ok (.if_icmp .ne 16, 3) := by decide +kernel
theorem dX7_isPlainWord_16 : decode cX7_isPlainWord 16 = .ok (.aload_n 0, 1) := by decide +kernel
theorem dX7_isPlainWord_17 : decode cX7_isPlainWord 17 = .ok (.getfield 18, 3) := by decide +kernel
theorem dX7_isPlainWord_20 : decode cX7_isPlainWord 20 = .ok (.bipush 12, 2) := by decide +kernel
theorem dX7_isPlainWord_22 : decode cX7_isPlainWord 22 = .ok (.if_icmp .gt 7, 3) := by decide +kernel
theorem dX7_isPlainWord_25 : decode cX7_isPlainWord 25 = .ok (.iconst 1, 1) := by decide +kernel
theorem dX7_isPlainWord_26 : decode cX7_isPlainWord 26 = .ok (.goto 4, 3) := by decide +kernel
theorem dX7_isPlainWord_29 : decode cX7_isPlainWord 29 = .ok (.iconst 0, 1) := by decide +kernel
theorem dX7_isPlainWord_30 : decode cX7_isPlainWord 30 = .ok (.ireturn, 1) := by decide +kernel
theorem dX7_value_0 : decode cX7_value 0 = .ok (.iconst 0, 1) := by decide +kernel
theorem dX7_value_1 : decode cX7_value 1 = .ok (.istore_n 1, 1) := by decide +kernel
theorem dX7_value_2 : decode cX7_value 2 = .ok (.iconst 0, 1) := by decide +kernel
theorem dX7_value_3 : decode cX7_value 3 = .ok (.istore_n 2, 1) := by decide +kernel
theorem dX7_value_4 : decode cX7_value 4 = .ok (.iload_n 2, 1) := by decide +kernel
theorem dX7_value_5 : decode cX7_value 5 = .ok (.aload_n 0, 1) := by decide +kernel
theorem dX7_value_6 : decode cX7_value 6 = .ok (.getfield 18, 3) := by decide +kernel
theorem dX7_value_9 : decode cX7_value 9 = .ok (.if_icmp .ge 40, 3) := by decide +kernel
theorem dX7_value_12 : decode cX7_value 12 = .ok (.iload_n 1, 1) := by decide +kernel
theorem dX7_value_13 : decode cX7_value 13 = .ok (.bipush 10, 2) := by decide +kernel
theorem dX7_value_15 : decode cX7_value 15 = .ok (.imul, 1) := by decide +kernel
theorem dX7_value_16 : decode cX7_value 16 = .ok (.aload_n 0, 1) := by decide +kernel
theorem dX7_value_17 : decode cX7_value 17 = .ok (.getfield 21, 3) := by decide +kernel
theorem dX7_value_20 : decode cX7_value 20 = .ok (.getfield 31, 3) := by decide +kernel
theorem dX7_value_23 : decode cX7_value 23 = .ok (.aload_n 0, 1) := by decide +kernel
theorem dX7_value_24 : decode cX7_value 24 = .ok (.getfield 15, 3) := by decide +kernel
theorem dX7_value_27 : decode cX7_value 27 = .ok (.iload_n 2, 1) := by decide +kernel
theorem dX7_value_28 : decode cX7_value 28 = .ok (.iadd, 1) := by decide +kernel
theorem dX7_value_29 : decode cX7_value 29 = .ok (.invokevirtual 35, 3) := by decide +kernel
theorem dX7_value_32 : decode cX7_value 32 = .ok (.iadd, 1) := by decide +kernel
theorem dX7_value_33 : decode cX7_value 33 = .ok (.bipush 48, 2) := by decide +kernel
theorem dX7_value_35 : decode cX7_value 35 = .ok (.isub, 1) := by decide +kernel
theorem dX7_value_36 : decode cX7_value 36 = .ok (.sipush 10000, 3) := by decide +kernel
theorem dX7_value_39 : decode cX7_value 39 = .ok (.invokestatic 53, 3) := by decide +kernel
theorem dX7_value_42 : decode cX7_value 42 = .ok (.istore_n 1, 1) := by decide +kernel
theorem dX7_value_43 : decode cX7_value 43 = .ok (.iinc 2 1, 3) := by decide +kernel
theorem dX7_value_46 : decode cX7_value 46 = .ok (.goto (-42), 3) := by decide +kernel
theorem dX7_value_49 : decode cX7_value 49 = .ok (.iload_n 1, 1) := by decide +kernel
theorem dX7_value_50 : decode cX7_value 50 = .ok (.ireturn, 1) := by decide +kernel
theorem dX8_init_0 : decode cX8_init 0 = .ok (.aload_n 0, 1) := by decide +kernel
theorem dX8_init_1 : decode cX8_init 1 = .ok (.invokespecial 3, 3) := by decide +kernel
theorem dX8_init_4 : decode cX8_init 4 = .ok (.aload_n 0, 1) := by decide +kernel
theorem dX8_init_5 : decode cX8_init 5 = .ok (.new 9, 3) := by decide +kernel
theorem dX8_init_8 : decode cX8_init 8 = .ok (.dup, 1) := by decide +kernel
theorem dX8_init_9 : decode cX8_init 9 = .ok (.sipush 500, 3) := by decide +kernel
theorem dX8_init_12 : decode cX8_init 12 = .ok (.invokespecial 11, 3) := by decide +kernel
theorem dX8_init_15 : decode cX8_init 15 = .ok (.putfield 14, 3) := by decide +kernel
theorem dX8_init_18 : decode cX8_init 18 = .ok (.aload_n 0, 1) := by decide +kernel
theorem dX8_init_19 : decode cX8_init 19 = .ok (.new 9, 3) := by decide +kernel
theorem dX8_init_22 : decode cX8_init 22 = .ok (.dup, 1) := by decide +kernel
theorem dX8_init_23 : decode cX8_init 23 = .ok (.sipush 900, 3) := by decide +kernel
theorem dX8_init_26 : decode cX8_init 26 = .ok (.invokespecial 11, 3) := by decide +kernel
theorem dX8_init_29 : decode cX8_init 29 = .ok (.putfield 18, 3) := by decide +kernel
theorem dX8_init_32 : decode cX8_init 32 = .ok (.aload_n 0, 1) := by decide +kernel
theorem dX8_init_33 : decode cX8_init 33 = .ok (.new 21, 3) := by decide +kernel
theorem dX8_init_36 : decode cX8_init 36 = .ok (.dup, 1) := by decide +kernel
theorem dX8_init_37 : decode cX8_init 37 = .ok (.aload_n 0, 1) := by decide +kernel
theorem dX8_init_38 : decode cX8_init 38 = .ok (.getfield 14, 3) := by decide +kernel
theorem dX8_init_41 : decode cX8_init 41 = .ok (.invokespecial 23, 3) := by decide +kernel
theorem dX8_init_44 : decode cX8_init 44 = .ok (.putfield 26, 3) := by decide +kernel
theorem dX8_init_47 : decode cX8_init 47 = .ok (.aload_n 0, 1) := by decide +kernel
theorem dX8_init_48 : decode cX8_init 48 = .ok (.new 30, 3) := by decide +kernel
theorem dX8_init_51 : decode cX8_init 51 = .ok (.dup, 1) := by decide +kernel
theorem dX8_init_52 : decode cX8_init 52 = .ok (.aload_n 0, 1) := by decide +kernel
theorem dX8_init_53 : decode cX8_init 53 = .ok (.getfield 26, 3) := by decide +kernel
theorem dX8_init_56 : decode cX8_init 56 = .ok (.invokespecial 32, 3) := by decide +kernel
theorem dX8_init_59 : decode cX8_init 59 = .ok (.putfield 35, 3) := by decide +kernel
theorem dX8_init_62 : decode cX8_init 62 = .ok (.aload_n 0, 1) := by decide +kernel
theorem dX8_init_63 : decode cX8_init 63 = .ok (.new 39, 3) := by decide +kernel
theorem dX8_init_66 : decode cX8_init 66 = .ok (.dup, 1) := by decide +kernel
theorem dX8_init_67 : decode cX8_init 67 = .ok (.invokespecial 41, 3) := by decide +kernel
theorem dX8_init_70 : decode cX8_init 70 = .ok (.putfield 42, 3) := by decide +kernel
theorem dX8_init_73 : decode cX8_init 73 = .ok (.aload_n 0, 1) := by decide +kernel
theorem dX8_init_74 : decode cX8_init 74 = .ok (.new 46, 3) := by decide +kernel
theorem dX8_init_77 : decode cX8_init 77 = .ok (.dup, 1) := by decide +kernel
theorem dX8_init_78 : decode cX8_init 78 = .ok (.invokespecial 48, 3) := by decide +kernel
theorem dX8_init_81 : decode cX8_init 81 = .ok (.putfield 49, 3) := by decide +kernel
theorem dX8_init_84 : decode cX8_init 84 = .ok (.aload_n 0, 1) := by decide +kernel
theorem dX8_init_85 : decode cX8_init 85 = .ok (.new 39, 3) := by decide +kernel
theorem dX8_init_88 : decode cX8_init 88 = .ok (.dup, 1) := by decide +kernel
theorem dX8_init_89 : decode cX8_init 89 = .ok (.invokespecial 41, 3) := by decide +kernel
theorem dX8_init_92 : decode cX8_init 92 = .ok (.putfield 53, 3) := by decide +kernel
theorem dX8_init_95 : decode cX8_init 95 = .ok (.aload_n 0, 1) := by decide +kernel
theorem dX8_init_96 : decode cX8_init 96 = .ok (.new 46, 3) := by decide +kernel
theorem dX8_init_99 : decode cX8_init 99 = .ok (.dup, 1) := by decide +kernel
theorem dX8_init_100 : decode cX8_init 100 = .ok (.invokespecial 48, 3) := by decide +kernel
theorem dX8_init_103 : decode cX8_init 103 = .ok (.putfield 56, 3) := by decide +kernel
theorem dX8_init_106 : decode cX8_init 106 = .ok (.aload_n 0, 1) := by decide +kernel
theorem dX8_init_107 : decode cX8_init 107 = .ok (.new 59, 3) := by decide +kernel
theorem dX8_init_110 : decode cX8_init 110 = .ok (.dup, 1) := by decide +kernel
theorem dX8_init_111 : decode cX8_init 111 = .ok (.invokespecial 61, 3) := by decide +kernel
theorem dX8_init_114 : decode cX8_init 114 = .ok (.putfield 62, 3) := by decide +kernel
theorem dX8_init_117 : decode cX8_init 117 = .ok (.aload_n 0, 1) := by decide +kernel
theorem dX8_init_118 : decode cX8_init 118 = .ok (.new 66, 3) := by decide +kernel
theorem dX8_init_121 : decode cX8_init 121 = .ok (.dup, 1) := by decide +kernel
theorem dX8_init_122 : decode cX8_init 122 = .ok (.invokespecial 68, 3) := by decide +kernel
theorem dX8_init_125 : decode cX8_init 125 = .ok (.putfield 69, 3) := by decide +kernel
theorem dX8_init_128 : decode cX8_init 128 = .ok (.aload_n 0, 1) := by decide +kernel
theorem dX8_init_129 : decode cX8_init 129 = .ok (.iconst 2, 1) := by decide +kernel
theorem dX8_init_130 : decode cX8_init 130 = .ok (.anewarray 39, 3) := by decide +kernel
theorem dX8_init_133 : decode cX8_init 133 = .ok (.putfield 73, 3) := by decide +kernel
theorem dX8_init_136 : decode cX8_init 136 = .ok (.return_, 1) := by decide +kernel
theorem dX8_append_0 : decode cX8_append 0 = .ok (.aload_n 0, 1) := by decide +kernel
theorem dX8_append_1 : decode cX8_append 1 = .ok (.getfield 14, 3) := by decide +kernel
theorem dX8_append_4 : decode cX8_append 4 = .ok (.getfield 77, 3) := by decide +kernel
theorem dX8_append_7 : decode cX8_append 7 = .ok (.sipush 480, 3) := by decide +kernel
theorem dX8_append_10 : decode cX8_append 10 = .ok (.if_icmp .le 11, 3) := by decide +kernel
theorem dX8_append_13 : decode cX8_append 13 = .ok (.new 81, 3) := by decide +kernel
theorem dX8_append_16 : decode cX8_append 16 = .ok (.dup, 1) := by decide +kernel
theorem dX8_append_17 : decode cX8_append 17 = .ok (.invokespecial 83, 3) := by decide +kernel
theorem dX8_append_20 : decode cX8_append 20 = .ok (.athrow, 1) := by decide +kernel
theorem dX8_append_21 : decode cX8_append 21 = .ok (.aload_n 0, 1) := by decide +kernel
theorem dX8_append_22 : decode cX8_append 22 = .ok (.getfield 14, 3) := by decide +kernel
theorem dX8_append_25 : decode cX8_append 25 = .ok (.iload_n 1, 1) := by decide +kernel
theorem dX8_append_26 : decode cX8_append 26 = .ok (.invokevirtual 84, 3) := by decide +kernel
theorem dX8_append_29 : decode cX8_append 29 = .ok (.aload_n 0, 1) := by decide +kernel
theorem dX8_append_30 : decode cX8_append 30 = .ok (.getfield 14, 3) := by decide +kernel
theorem dX8_append_33 : decode cX8_append 33 = .ok (.iload_n 2, 1) := by decide +kernel
theorem dX8_append_34 : decode cX8_append 34 = .ok (.invokevirtual 84, 3) := by decide +kernel
theorem dX8_append_37 : decode cX8_append 37 = .ok (.aload_n 0, 1) := by decide +kernel
theorem dX8_append_38 : decode cX8_append 38 = .ok (.getfield 14, 3) := by decide +kernel
theorem dX8_append_41 : decode cX8_append 41 = .ok (.iload_n 3, 1) := by decide +kernel
theorem dX8_append_42 : decode cX8_append 42 = .ok (.invokevirtual 84, 3) := by decide +kernel
theorem dX8_append_45 : decode cX8_append 45 = .ok (.aload_n 0, 1) := by decide +kernel
theorem dX8_append_46 : decode cX8_append 46 = .ok (.getfield 14, 3) := by decide +kernel
theorem dX8_append_49 : decode cX8_append 49 = .ok (.iload 4, 2) := by decide +kernel
theorem dX8_append_51 : decode cX8_append 51 = .ok (.invokevirtual 84, 3) := by decide +kernel
theorem dX8_append_54 : decode cX8_append 54 = .ok (.aload_n 0, 1) := by decide +kernel
theorem dX8_append_55 : decode cX8_append 55 = .ok (.getfield 14, 3) := by decide +kernel
theorem dX8_append_58 : decode cX8_append 58 = .ok (.iload 5, 2) := by decide +kernel
theorem dX8_append_60 : decode cX8_append 60 = .ok (.invokevirtual 84, 3) := by decide +kernel
theorem dX8_append_63 : decode cX8_append 63 = .ok (.aload_n 0, 1) := by decide +kernel
theorem dX8_append_64 : decode cX8_append 64 = .ok (.getfield 14, 3) := by decide +kernel
theorem dX8_append_67 : decode cX8_append 67 = .ok (.getfield 77, 3) := by decide +kernel
theorem dX8_append_70 : decode cX8_append 70 = .ok (.ireturn, 1) := by decide +kernel
theorem dX8_truncate_0 : decode cX8_truncate 0 = .ok (.iload_n 1, 1) := by decide +kernel
theorem dX8_truncate_1 : decode cX8_truncate 1 = .ok (.ifCond .lt 14, 3) := by decide +kernel
theorem dX8_truncate_4 : decode cX8_truncate 4 = .ok (.iload_n 1, 1) := by decide +kernel
theorem dX8_truncate_5 : decode cX8_truncate 5 = .ok (.aload_n 0, 1) := by decide +kernel
theorem dX8_truncate_6 : decode cX8_truncate 6 = .ok (.getfield 14, 3) := by decide +kernel
theorem dX8_truncate_9 : decode cX8_truncate 9 = .ok (.getfield 77, 3) := by decide +kernel
theorem dX8_truncate_12 : decode cX8_truncate 12 = .ok (.if_icmp .le 11, 3) := by decide +kernel
theorem dX8_truncate_15 : decode cX8_truncate 15 = .ok (.new 87, 3) := by decide +kernel
theorem dX8_truncate_18 : decode cX8_truncate 18 = .ok (.dup, 1) := by decide +kernel
theorem dX8_truncate_19 : decode cX8_truncate 19 = .ok (.invokespecial 89, 3) := by decide +kernel
theorem dX8_truncate_22 : decode cX8_truncate 22 = .ok (.athrow, 1) := by decide +kernel
theorem dX8_truncate_23 : decode cX8_truncate 23 = .ok (.aload_n 0, 1) := by decide +kernel
theorem dX8_truncate_24 : decode cX8_truncate 24 = .ok (.getfield 14, 3) := by decide +kernel
theorem dX8_truncate_27 : decode cX8_truncate 27 = .ok (.iload_n 1, 1) := by decide +kernel
theorem dX8_truncate_28 : decode cX8_truncate 28 = .ok (.putfield 77, 3) := by decide +kernel
theorem dX8_truncate_31 : decode cX8_truncate 31 = .ok (.return_, 1) := by decide +kernel
theorem dX8_load_0 : decode cX8_load 0 = .ok (.aload_n 0, 1) := by decide +kernel
theorem dX8_load_1 : decode cX8_load 1 = .ok (.getfield 35, 3) := by decide +kernel
theorem dX8_load_4 : decode cX8_load 4 = .ok (.aload_n 0, 1) := by decide +kernel
theorem dX8_load_5 : decode cX8_load 5 = .ok (.getfield 53, 3) := by decide +kernel
theorem dX8_load_8 : decode cX8_load 8 = .ok (.invokevirtual 90, 3) := by decide +kernel
theorem dX8_load_11 : decode cX8_load 11 = .ok (.istore_n 1, 1) := by decide +kernel
theorem dX8_load_12 : decode cX8_load 12 = .ok (.aload_n 0, 1) := by decide +kernel
theorem dX8_load_13 : decode cX8_load 13 = .ok (.getfield 14, 3) := by decide +kernel
theorem dX8_load_16 : decode cX8_load 16 = .ok (.iconst 0, 1) := by decide +kernel
theorem dX8_load_17 : decode cX8_load 17 = .ok (.putfield 77, 3) := by decide +kernel
theorem dX8_load_20 : decode cX8_load 20 = .ok (.iload_n 1, 1) := by decide +kernel
theorem dX8_load_21 : decode cX8_load 21 = .ok (.ifCond .ne 6, 3) := by decide +kernel
theorem dX8_load_24 : decode cX8_load 24 = .ok (.bipush (-4), 2) := by decide +kernel
theorem dX8_load_26 : decode cX8_load 26 = .ok (.ireturn, 1) := by decide +kernel
theorem dX8_load_27 : decode cX8_load 27 = .ok (.aload_n 0, 1) := by decide +kernel
theorem dX8_load_28 : decode cX8_load 28 = .ok (.invokevirtual 94, 3) := by decide +kernel
theorem dX8_load_31 : decode cX8_load 31 = .ok (.aload_n 0, 1) := by decide +kernel
theorem dX8_load_32 : decode cX8_load 32 = .ok (.getfield 49, 3) := by decide +kernel
theorem dX8_load_35 : decode cX8_load 35 = .ok (.getfield 97, 3) := by decide +kernel
theorem dX8_load_38 : decode cX8_load 38 = .ok (.ireturn, 1) := by decide +kernel
theorem dX8_errorCode_0 : decode cX8_errorCode 0 = .ok (.aload_n 0, 1) := by decide +kernel
theorem dX8_errorCode_1 : decode cX8_errorCode 1 = .ok (.getfield 35, 3) := by decide +kernel
theorem dX8_errorCode_4 : decode cX8_errorCode 4 = .ok (.getfield 100, 3) := by decide +kernel
theorem dX8_errorCode_7 : decode cX8_errorCode 7 = .ok (.ireturn, 1) := by decide +kernel
theorem dX8_property_0 : decode cX8_property 0 = .ok (.iload_n 1, 1) := by decide +kernel
theorem dX8_property_1 : decode cX8_property 1 = .ok (.tableswitch 198 0 13 #[71, 79, 87, 95, 103, 111, 119, 127, 135, 143, 154, 165, 176, 187], 71) := by decide +kernel
theorem dX8_property_72 : decode cX8_property 72 = .ok (.aload_n 0, 1) := by decide +kernel
theorem dX8_property_73 : decode cX8_property 73 = .ok (.getfield 42, 3) := by decide +kernel
theorem dX8_property_76 : decode cX8_property 76 = .ok (.getfield 106, 3) := by decide +kernel
theorem dX8_property_79 : decode cX8_property 79 = .ok (.ireturn, 1) := by decide +kernel
theorem dX8_property_80 : decode cX8_property 80 = .ok (.aload_n 0, 1) := by decide +kernel
theorem dX8_property_81 : decode cX8_property 81 = .ok (.getfield 42, 3) := by decide +kernel
theorem dX8_property_84 : decode cX8_property 84 = .ok (.getfield 109, 3) := by decide +kernel
theorem dX8_property_87 : decode cX8_property 87 = .ok (.ireturn, 1) := by decide +kernel
theorem dX8_property_88 : decode cX8_property 88 = .ok (.aload_n 0, 1) := by decide +kernel
theorem dX8_property_89 : decode cX8_property 89 = .ok (.getfield 42, 3) := by decide +kernel
theorem dX8_property_92 : decode cX8_property 92 = .ok (.invokevirtual 112, 3) := by decide +kernel
theorem dX8_property_95 : decode cX8_property 95 = .ok (.ireturn, 1) := by decide +kernel
theorem dX8_property_96 : decode cX8_property 96 = .ok (.aload_n 0, 1) := by decide +kernel
theorem dX8_property_97 : decode cX8_property 97 = .ok (.getfield 42, 3) := by decide +kernel
theorem dX8_property_100 : decode cX8_property 100 = .ok (.getfield 116, 3) := by decide +kernel
theorem dX8_property_103 : decode cX8_property 103 = .ok (.ireturn, 1) := by decide +kernel
theorem dX8_property_104 : decode cX8_property 104 = .ok (.aload_n 0, 1) := by decide +kernel
theorem dX8_property_105 : decode cX8_property 105 = .ok (.getfield 42, 3) := by decide +kernel
theorem dX8_property_108 : decode cX8_property 108 = .ok (.getfield 119, 3) := by decide +kernel
theorem dX8_property_111 : decode cX8_property 111 = .ok (.ireturn, 1) := by decide +kernel
theorem dX8_property_112 : decode cX8_property 112 = .ok (.aload_n 0, 1) := by decide +kernel
theorem dX8_property_113 : decode cX8_property 113 = .ok (.getfield 42, 3) := by decide +kernel
theorem dX8_property_116 : decode cX8_property 116 = .ok (.getfield 122, 3) := by decide +kernel
theorem dX8_property_119 : decode cX8_property 119 = .ok (.ireturn, 1) := by decide +kernel
theorem dX8_property_120 : decode cX8_property 120 = .ok (.aload_n 0, 1) := by decide +kernel
theorem dX8_property_121 : decode cX8_property 121 = .ok (.getfield 49, 3) := by decide +kernel
theorem dX8_property_124 : decode cX8_property 124 = .ok (.getfield 97, 3) := by decide +kernel
theorem dX8_property_127 : decode cX8_property 127 = .ok (.ireturn, 1) := by decide +kernel
theorem dX8_property_128 : decode cX8_property 128 = .ok (.aload_n 0, 1) := by decide +kernel
theorem dX8_property_129 : decode cX8_property 129 = .ok (.getfield 49, 3) := by decide +kernel
theorem dX8_property_132 : decode cX8_property 132 = .ok (.getfield 125, 3) := by decide +kernel
theorem dX8_property_135 : decode cX8_property 135 = .ok (.ireturn, 1) := by decide +kernel
theorem dX8_property_136 : decode cX8_property 136 = .ok (.aload_n 0, 1) := by decide +kernel
theorem dX8_property_137 : decode cX8_property 137 = .ok (.getfield 42, 3) := by decide +kernel
theorem dX8_property_140 : decode cX8_property 140 = .ok (.getfield 128, 3) := by decide +kernel
theorem dX8_property_143 : decode cX8_property 143 = .ok (.ireturn, 1) := by decide +kernel
theorem dX8_property_144 : decode cX8_property 144 = .ok (.aload_n 0, 1) := by decide +kernel
theorem dX8_property_145 : decode cX8_property 145 = .ok (.getfield 42, 3) := by decide +kernel
theorem dX8_property_148 : decode cX8_property 148 = .ok (.getfield 131, 3) := by decide +kernel
theorem dX8_property_151 : decode cX8_property 151 = .ok (.getfield 134, 3) := by decide +kernel
theorem dX8_property_154 : decode cX8_property 154 = .ok (.ireturn, 1) := by decide +kernel
theorem dX8_property_155 : decode cX8_property 155 = .ok (.aload_n 0, 1) := by decide +kernel
theorem dX8_property_156 : decode cX8_property 156 = .ok (.getfield 42, 3) := by decide +kernel
theorem dX8_property_159 : decode cX8_property 159 = .ok (.getfield 131, 3) := by decide +kernel
theorem dX8_property_162 : decode cX8_property 162 = .ok (.getfield 137, 3) := by decide +kernel
theorem dX8_property_165 : decode cX8_property 165 = .ok (.ireturn, 1) := by decide +kernel
theorem dX8_property_166 : decode cX8_property 166 = .ok (.aload_n 0, 1) := by decide +kernel
theorem dX8_property_167 : decode cX8_property 167 = .ok (.getfield 42, 3) := by decide +kernel
theorem dX8_property_170 : decode cX8_property 170 = .ok (.getfield 131, 3) := by decide +kernel
theorem dX8_property_173 : decode cX8_property 173 = .ok (.getfield 140, 3) := by decide +kernel
theorem dX8_property_176 : decode cX8_property 176 = .ok (.ireturn, 1) := by decide +kernel
theorem dX8_property_177 : decode cX8_property 177 = .ok (.aload_n 0, 1) := by decide +kernel
theorem dX8_property_178 : decode cX8_property 178 = .ok (.getfield 42, 3) := by decide +kernel
theorem dX8_property_181 : decode cX8_property 181 = .ok (.getfield 131, 3) := by decide +kernel
theorem dX8_property_184 : decode cX8_property 184 = .ok (.getfield 143, 3) := by decide +kernel
theorem dX8_property_187 : decode cX8_property 187 = .ok (.ireturn, 1) := by decide +kernel
theorem dX8_property_188 : decode cX8_property 188 = .ok (.aload_n 0, 1) := by decide +kernel
theorem dX8_property_189 : decode cX8_property 189 = .ok (.getfield 42, 3) := by decide +kernel
theorem dX8_property_192 : decode cX8_property 192 = .ok (.getfield 131, 3) := by decide +kernel
theorem dX8_property_195 : decode cX8_property 195 = .ok (.getfield 146, 3) := by decide +kernel
theorem dX8_property_198 : decode cX8_property 198 = .ok (.ireturn, 1) := by decide +kernel
theorem dX8_property_199 : decode cX8_property 199 = .ok (.new 87, 3) := by decide +kernel
theorem dX8_property_202 : decode cX8_property 202 = .ok (.dup, 1) := by decide +kernel
theorem dX8_property_203 : decode cX8_property 203 = .ok (.invokespecial 89, 3) := by decide +kernel
theorem dX8_property_206 : decode cX8_property 206 = .ok (.athrow, 1) := by decide +kernel
theorem dX8_word_0 : decode cX8_word 0 = .ok (.aload_n 0, 1) := by decide +kernel
theorem dX8_word_1 : decode cX8_word 1 = .ok (.iload_n 1, 1) := by decide +kernel
theorem dX8_word_2 : decode cX8_word 2 = .ok (.invokevirtual 180, 3) := by decide +kernel
theorem dX8_word_5 : decode cX8_word 5 = .ok (.iload_n 2, 1) := by decide +kernel
theorem dX8_word_6 : decode cX8_word 6 = .ok (.tableswitch 95 0 5 #[38, 47, 59, 71, 83, 89], 38) := by decide +kernel
theorem dX8_word_44 : decode cX8_word 44 = .ok (.aload_n 0, 1) := by decide +kernel
theorem dX8_word_45 : decode cX8_word 45 = .ok (.getfield 42, 3) := by decide +kernel
theorem dX8_word_48 : decode cX8_word 48 = .ok (.iload_n 1, 1) := by decide +kernel
theorem dX8_word_49 : decode cX8_word 49 = .ok (.invokevirtual 183, 3) := by decide +kernel
theorem dX8_word_52 : decode cX8_word 52 = .ok (.ireturn, 1) := by decide +kernel
theorem dX8_word_53 : decode cX8_word 53 = .ok (.aload_n 0, 1) := by decide +kernel
theorem dX8_word_54 : decode cX8_word 54 = .ok (.getfield 42, 3) := by decide +kernel
theorem dX8_word_57 : decode cX8_word 57 = .ok (.getfield 186, 3) := by decide +kernel
theorem dX8_word_60 : decode cX8_word 60 = .ok (.iload_n 1, 1) := by decide +kernel
theorem dX8_word_61 : decode cX8_word 61 = .ok (.invokevirtual 160, 3) := by decide +kernel
theorem dX8_word_64 : decode cX8_word 64 = .ok (.ireturn, 1) := by decide +kernel
theorem dX8_word_65 : decode cX8_word 65 = .ok (.aload_n 0, 1) := by decide +kernel
theorem dX8_word_66 : decode cX8_word 66 = .ok (.getfield 49, 3) := by decide +kernel
theorem dX8_word_69 : decode cX8_word 69 = .ok (.getfield 177, 3) := by decide +kernel
theorem dX8_word_72 : decode cX8_word 72 = .ok (.iload_n 1, 1) := by decide +kernel
theorem dX8_word_73 : decode cX8_word 73 = .ok (.invokevirtual 160, 3) := by decide +kernel
theorem dX8_word_76 : decode cX8_word 76 = .ok (.ireturn, 1) := by decide +kernel
theorem dX8_word_77 : decode cX8_word 77 = .ok (.aload_n 0, 1) := by decide +kernel
theorem dX8_word_78 : decode cX8_word 78 = .ok (.getfield 49, 3) := by decide +kernel
theorem dX8_word_81 : decode cX8_word 81 = .ok (.getfield 189, 3) := by decide +kernel
theorem dX8_word_84 : decode cX8_word 84 = .ok (.iload_n 1, 1) := by decide +kernel
theorem dX8_word_85 : decode cX8_word 85 = .ok (.invokevirtual 160, 3) := by decide +kernel
theorem dX8_word_88 : decode cX8_word 88 = .ok (.ireturn, 1) := by decide +kernel
theorem dX8_word_89 : decode cX8_word 89 = .ok (.aload_n 0, 1) := by decide +kernel
theorem dX8_word_90 : decode cX8_word 90 = .ok (.iload_n 1, 1) := by decide +kernel
theorem dX8_word_91 : decode cX8_word 91 = .ok (.invokevirtual 192, 3) := by decide +kernel
theorem dX8_word_94 : decode cX8_word 94 = .ok (.ireturn, 1) := by decide +kernel
theorem dX8_word_95 : decode cX8_word 95 = .ok (.aload_n 0, 1) := by decide +kernel
theorem dX8_word_96 : decode cX8_word 96 = .ok (.iload_n 1, 1) := by decide +kernel
theorem dX8_word_97 : decode cX8_word 97 = .ok (.invokevirtual 195, 3) := by decide +kernel
theorem dX8_word_100 : decode cX8_word 100 = .ok (.ireturn, 1) := by decide +kernel
theorem dX8_word_101 : decode cX8_word 101 = .ok (.new 87, 3) := by decide +kernel
theorem dX8_word_104 : decode cX8_word 104 = .ok (.dup, 1) := by decide +kernel
theorem dX8_word_105 : decode cX8_word 105 = .ok (.invokespecial 89, 3) := by decide +kernel
theorem dX8_word_108 : decode cX8_word 108 = .ok (.athrow, 1) := by decide +kernel
theorem dX8_letter_0 : decode cX8_letter 0 = .ok (.aload_n 0, 1) := by decide +kernel
theorem dX8_letter_1 : decode cX8_letter 1 = .ok (.iload_n 1, 1) := by decide +kernel
theorem dX8_letter_2 : decode cX8_letter 2 = .ok (.invokevirtual 180, 3) := by decide +kernel
theorem dX8_letter_5 : decode cX8_letter 5 = .ok (.iload_n 2, 1) := by decide +kernel
theorem dX8_letter_6 : decode cX8_letter 6 = .ok (.ifCond .lt 18, 3) := by decide +kernel
theorem dX8_letter_9 : decode cX8_letter 9 = .ok (.iload_n 2, 1) := by decide +kernel
theorem dX8_letter_10 : decode cX8_letter 10 = .ok (.aload_n 0, 1) := by decide +kernel
theorem dX8_letter_11 : decode cX8_letter 11 = .ok (.getfield 42, 3) := by decide +kernel
theorem dX8_letter_14 : decode cX8_letter 14 = .ok (.getfield 186, 3) := by decide +kernel
theorem dX8_letter_17 : decode cX8_letter 17 = .ok (.iload_n 1, 1) := by decide +kernel
theorem dX8_letter_18 : decode cX8_letter 18 = .ok (.invokevirtual 160, 3) := by decide +kernel
theorem dX8_letter_21 : decode cX8_letter 21 = .ok (.if_icmp .lt 11, 3) := by decide +kernel
theorem dX8_letter_24 : decode cX8_letter 24 = .ok (.new 198, 3) := by decide +kernel
theorem dX8_letter_27 : decode cX8_letter 27 = .ok (.dup, 1) := by decide +kernel
theorem dX8_letter_28 : decode cX8_letter 28 = .ok (.invokespecial 200, 3) := by decide +kernel
theorem dX8_letter_31 : decode cX8_letter 31 = .ok (.athrow, 1) := by decide +kernel
theorem dX8_letter_32 : decode cX8_letter 32 = .ok (.aload_n 0, 1) := by decide +kernel
theorem dX8_letter_33 : decode cX8_letter 33 = .ok (.getfield 42, 3) := by decide +kernel
theorem dX8_letter_36 : decode cX8_letter 36 = .ok (.iload_n 1, 1) := by decide +kernel
theorem dX8_letter_37 : decode cX8_letter 37 = .ok (.iload_n 2, 1) := by decide +kernel
theorem dX8_letter_38 : decode cX8_letter 38 = .ok (.invokevirtual 201, 3) := by decide +kernel
theorem dX8_letter_41 : decode cX8_letter 41 = .ok (.ireturn, 1) := by decide +kernel
theorem dX8_cell_0 : decode cX8_cell 0 = .ok (.aload_n 0, 1) := by decide +kernel
theorem dX8_cell_1 : decode cX8_cell 1 = .ok (.iload_n 1, 1) := by decide +kernel
theorem dX8_cell_2 : decode cX8_cell 2 = .ok (.iload_n 2, 1) := by decide +kernel
theorem dX8_cell_3 : decode cX8_cell 3 = .ok (.invokevirtual 204, 3) := by decide +kernel
theorem dX8_cell_6 : decode cX8_cell 6 = .ok (.aload_n 0, 1) := by decide +kernel
theorem dX8_cell_7 : decode cX8_cell 7 = .ok (.getfield 42, 3) := by decide +kernel
theorem dX8_cell_10 : decode cX8_cell 10 = .ok (.iload_n 1, 1) := by decide +kernel
theorem dX8_cell_11 : decode cX8_cell 11 = .ok (.iload_n 2, 1) := by decide +kernel
theorem dX8_cell_12 : decode cX8_cell 12 = .ok (.invokevirtual 208, 3) := by decide +kernel
theorem dX8_cell_15 : decode cX8_cell 15 = .ok (.ifCond .eq 5, 3) := by decide +kernel
theorem dX8_cell_18 : decode cX8_cell 18 = .ok (.iconst (-1), 1) := by decide +kernel
theorem dX8_cell_19 : decode cX8_cell 19 = .ok (.ireturn, 1) := by decide +kernel
theorem dX8_cell_20 : decode cX8_cell 20 = .ok (.aload_n 0, 1) := by decide +kernel
theorem dX8_cell_21 : decode cX8_cell 21 = .ok (.getfield 49, 3) := by decide +kernel
theorem dX8_cell_24 : decode cX8_cell 24 = .ok (.aload_n 0, 1) := by decide +kernel
theorem dX8_cell_25 : decode cX8_cell 25 = .ok (.getfield 42, 3) := by decide +kernel
theorem dX8_cell_28 : decode cX8_cell 28 = .ok (.iload_n 1, 1) := by decide +kernel
theorem dX8_cell_29 : decode cX8_cell 29 = .ok (.iload_n 2, 1) := by decide +kernel
theorem dX8_cell_30 : decode cX8_cell 30 = .ok (.invokevirtual 212, 3) := by decide +kernel
theorem dX8_cell_33 : decode cX8_cell 33 = .ok (.istore_n 3, 1) := by decide +kernel
theorem dX8_cell_34 : decode cX8_cell 34 = .ok (.iload_n 3, 1) := by decide +kernel
theorem dX8_cell_35 : decode cX8_cell 35 = .ok (.iconst (-1), 1) := by decide +kernel
theorem dX8_cell_36 : decode cX8_cell 36 = .ok (.if_icmp .ne 7, 3) := by decide +kernel
theorem dX8_cell_39 : decode cX8_cell 39 = .ok (.iconst 0, 1) := by decide +kernel
theorem dX8_cell_40 : decode cX8_cell 40 = .ok (.goto 24, 3) := by decide +kernel
theorem dX8_cell_43 : decode cX8_cell 43 = .ok (.aload_n 0, 1) := by decide +kernel
theorem dX8_cell_44 : decode cX8_cell 44 = .ok (.getfield 42, 3) := by decide +kernel
theorem dX8_cell_47 : decode cX8_cell 47 = .ok (.iload_n 3, 1) := by decide +kernel
theorem dX8_cell_48 : decode cX8_cell 48 = .ok (.iload_n 1, 1) := by decide +kernel
theorem dX8_cell_49 : decode cX8_cell 49 = .ok (.aload_n 0, 1) := by decide +kernel
theorem dX8_cell_50 : decode cX8_cell 50 = .ok (.getfield 49, 3) := by decide +kernel
theorem dX8_cell_53 : decode cX8_cell 53 = .ok (.getfield 189, 3) := by decide +kernel
theorem dX8_cell_56 : decode cX8_cell 56 = .ok (.iload_n 3, 1) := by decide +kernel
theorem dX8_cell_57 : decode cX8_cell 57 = .ok (.invokevirtual 160, 3) := by decide +kernel
theorem dX8_cell_60 : decode cX8_cell 60 = .ok (.isub, 1) := by decide +kernel
theorem dX8_cell_61 : decode cX8_cell 61 = .ok (.invokevirtual 201, 3) := by decide +kernel
theorem dX8_cell_64 : decode cX8_cell 64 = .ok (.ireturn, 1) := by decide +kernel
theorem dX8_wordAt_0 : decode cX8_wordAt 0 = .ok (.aload_n 0, 1) := by decide +kernel
theorem dX8_wordAt_1 : decode cX8_wordAt 1 = .ok (.iload_n 1, 1) := by decide +kernel
theorem dX8_wordAt_2 : decode cX8_wordAt 2 = .ok (.iload_n 2, 1) := by decide +kernel
theorem dX8_wordAt_3 : decode cX8_wordAt 3 = .ok (.invokevirtual 204, 3) := by decide +kernel
theorem dX8_wordAt_6 : decode cX8_wordAt 6 = .ok (.aload_n 0, 1) := by decide +kernel
theorem dX8_wordAt_7 : decode cX8_wordAt 7 = .ok (.getfield 49, 3) := by decide +kernel
theorem dX8_wordAt_10 : decode cX8_wordAt 10 = .ok (.aload_n 0, 1) := by decide +kernel
theorem dX8_wordAt_11 : decode cX8_wordAt 11 = .ok (.getfield 42, 3) := by decide +kernel
theorem dX8_wordAt_14 : decode cX8_wordAt 14 = .ok (.iload_n 1, 1) := by decide +kernel
theorem dX8_wordAt_15 : decode cX8_wordAt 15 = .ok (.iload_n 2, 1) := by decide +kernel
theorem dX8_wordAt_16 : decode cX8_wordAt 16 = .ok (.invokevirtual 212, 3) := by decide +kernel
theorem dX8_wordAt_19 : decode cX8_wordAt 19 = .ok (.ireturn, 1) := by decide +kernel
theorem dX8_freeIn_0 : decode cX8_freeIn 0 = .ok (.aload_n 0, 1) := by decide +kernel
theorem dX8_freeIn_1 : decode cX8_freeIn 1 = .ok (.iload_n 1, 1) := by decide +kernel
theorem dX8_freeIn_2 : decode cX8_freeIn 2 = .ok (.invokevirtual 216, 3) := by decide +kernel
theorem dX8_freeIn_5 : decode cX8_freeIn 5 = .ok (.iconst 0, 1) := by decide +kernel
theorem dX8_freeIn_6 : decode cX8_freeIn 6 = .ok (.istore_n 2, 1) := by decide +kernel
theorem dX8_freeIn_7 : decode cX8_freeIn 7 = .ok (.iconst 0, 1) := by decide +kernel
theorem dX8_freeIn_8 : decode cX8_freeIn 8 = .ok (.istore_n 3, 1) := by decide +kernel
theorem dX8_freeIn_9 : decode cX8_freeIn 9 = .ok (.iload_n 3, 1) := by decide +kernel
theorem dX8_freeIn_10 : decode cX8_freeIn 10 = .ok (.aload_n 0, 1) := by decide +kernel
theorem dX8_freeIn_11 : decode cX8_freeIn 11 = .ok (.getfield 42, 3) := by decide +kernel
theorem dX8_freeIn_14 : decode cX8_freeIn 14 = .ok (.getfield 106, 3) := by decide +kernel
theorem dX8_freeIn_17 : decode cX8_freeIn 17 = .ok (.if_icmp .ge 41, 3) := by decide +kernel
theorem dX8_freeIn_20 : decode cX8_freeIn 20 = .ok (.aload_n 0, 1) := by decide +kernel
theorem dX8_freeIn_21 : decode cX8_freeIn 21 = .ok (.getfield 42, 3) := by decide +kernel
theorem dX8_freeIn_24 : decode cX8_freeIn 24 = .ok (.iload_n 3, 1) := by decide +kernel
theorem dX8_freeIn_25 : decode cX8_freeIn 25 = .ok (.iload_n 1, 1) := by decide +kernel
theorem dX8_freeIn_26 : decode cX8_freeIn 26 = .ok (.invokevirtual 208, 3) := by decide +kernel
theorem dX8_freeIn_29 : decode cX8_freeIn 29 = .ok (.ifCond .ne 23, 3) := by decide +kernel
theorem dX8_freeIn_32 : decode cX8_freeIn 32 = .ok (.aload_n 0, 1) := by decide +kernel
theorem dX8_freeIn_33 : decode cX8_freeIn 33 = .ok (.getfield 49, 3) := by decide +kernel
theorem dX8_freeIn_36 : decode cX8_freeIn 36 = .ok (.aload_n 0, 1) := by decide +kernel
theorem dX8_freeIn_37 : decode cX8_freeIn 37 = .ok (.getfield 42, 3) := by decide +kernel
theorem dX8_freeIn_40 : decode cX8_freeIn 40 = .ok (.iload_n 3, 1) := by decide +kernel
theorem dX8_freeIn_41 : decode cX8_freeIn 41 = .ok (.iload_n 1, 1) := by decide +kernel
theorem dX8_freeIn_42 : decode cX8_freeIn 42 = .ok (.invokevirtual 212, 3) := by decide +kernel
theorem dX8_freeIn_45 : decode cX8_freeIn 45 = .ok (.iconst (-1), 1) := by decide +kernel
theorem dX8_freeIn_46 : decode cX8_freeIn 46 = .ok (.if_icmp .ne 6, 3) := by decide +kernel
theorem dX8_freeIn_49 : decode cX8_freeIn 49 = .ok (.iinc 2 1, 3) := by decide +kernel
theorem dX8_freeIn_52 : decode cX8_freeIn 52 = .ok (.iinc 3 1, 3) := by decide +kernel
theorem dX8_freeIn_55 : decode cX8_freeIn 55 = .ok (.goto (-46), 3) := by decide +kernel
theorem dX8_freeIn_58 : decode cX8_freeIn 58 = .ok (.iload_n 2, 1) := by decide +kernel
theorem dX8_freeIn_59 : decode cX8_freeIn 59 = .ok (.ireturn, 1) := by decide +kernel
theorem dX8_firstMissing_0 : decode cX8_firstMissing 0 = .ok (.aload_n 0, 1) := by decide +kernel
theorem dX8_firstMissing_1 : decode cX8_firstMissing 1 = .ok (.getfield 49, 3) := by decide +kernel
theorem dX8_firstMissing_4 : decode cX8_firstMissing 4 = .ok (.getfield 97, 3) := by decide +kernel
theorem dX8_firstMissing_7 : decode cX8_firstMissing 7 = .ok (.aload_n 0, 1) := by decide +kernel
theorem dX8_firstMissing_8 : decode cX8_firstMissing 8 = .ok (.getfield 42, 3) := by decide +kernel
theorem dX8_firstMissing_11 : decode cX8_firstMissing 11 = .ok (.getfield 122, 3) := by decide +kernel
theorem dX8_firstMissing_14 : decode cX8_firstMissing 14 = .ok (.if_icmp .ge 13, 3) := by decide +kernel
theorem dX8_firstMissing_17 : decode cX8_firstMissing 17 = .ok (.aload_n 0, 1) := by decide +kernel
theorem dX8_firstMissing_18 : decode cX8_firstMissing 18 = .ok (.getfield 49, 3) := by decide +kernel
theorem dX8_firstMissing_21 : decode cX8_firstMissing 21 = .ok (.getfield 97, 3) := by decide +kernel
theorem dX8_firstMissing_24 : decode cX8_firstMissing 24 = .ok (.goto 4, 3) := by decide +kernel
theorem dX8_firstMissing_27 : decode cX8_firstMissing 27 = .ok (.iconst (-1), 1) := by decide +kernel
theorem dX8_firstMissing_28 : decode cX8_firstMissing 28 = .ok (.ireturn, 1) := by decide +kernel
theorem dX8_strokesLeft_0 : decode cX8_strokesLeft 0 = .ok (.aload_n 0, 1) := by decide +kernel
theorem dX8_strokesLeft_1 : decode cX8_strokesLeft 1 = .ok (.getfield 49, 3) := by decide +kernel
theorem dX8_strokesLeft_4 : decode cX8_strokesLeft 4 = .ok (.aload_n 0, 1) := by decide +kernel
theorem dX8_strokesLeft_5 : decode cX8_strokesLeft 5 = .ok (.getfield 42, 3) := by decide +kernel
theorem dX8_strokesLeft_8 : decode cX8_strokesLeft 8 = .ok (.getfield 128, 3) := by decide +kernel
theorem dX8_strokesLeft_11 : decode cX8_strokesLeft 11 = .ok (.aload_n 0, 1) := by decide +kernel
theorem dX8_strokesLeft_12 : decode cX8_strokesLeft 12 = .ok (.getfield 49, 3) := by decide +kernel
theorem dX8_strokesLeft_15 : decode cX8_strokesLeft 15 = .ok (.getfield 125, 3) := by decide +kernel
theorem dX8_strokesLeft_18 : decode cX8_strokesLeft 18 = .ok (.invokevirtual 219, 3) := by decide +kernel
theorem dX8_strokesLeft_21 : decode cX8_strokesLeft 21 = .ok (.ireturn, 1) := by decide +kernel
theorem dX8_dear_0 : decode cX8_dear 0 = .ok (.iconst 0, 1) := by decide +kernel
theorem dX8_dear_1 : decode cX8_dear 1 = .ok (.istore_n 1, 1) := by decide +kernel
theorem dX8_dear_2 : decode cX8_dear 2 = .ok (.iconst 0, 1) := by decide +kernel
theorem dX8_dear_3 : decode cX8_dear 3 = .ok (.istore_n 2, 1) := by decide +kernel
theorem dX8_dear_4 : decode cX8_dear 4 = .ok (.iload_n 2, 1) := by decide +kernel
theorem dX8_dear_5 : decode cX8_dear 5 = .ok (.aload_n 0, 1) := by decide +kernel
theorem dX8_dear_6 : decode cX8_dear 6 = .ok (.getfield 49, 3) := by decide +kernel
theorem dX8_dear_9 : decode cX8_dear 9 = .ok (.getfield 125, 3) := by decide +kernel
theorem dX8_dear_12 : decode cX8_dear 12 = .ok (.if_icmp .ge 55, 3) := by decide +kernel
theorem dX8_dear_15 : decode cX8_dear 15 = .ok (.aload_n 0, 1) := by decide +kernel
theorem dX8_dear_16 : decode cX8_dear 16 = .ok (.getfield 49, 3) := by decide +kernel
theorem dX8_dear_19 : decode cX8_dear 19 = .ok (.getfield 238, 3) := by decide +kernel
theorem dX8_dear_22 : decode cX8_dear 22 = .ok (.iload_n 2, 1) := by decide +kernel
theorem dX8_dear_23 : decode cX8_dear 23 = .ok (.invokevirtual 160, 3) := by decide +kernel
theorem dX8_dear_26 : decode cX8_dear 26 = .ok (.istore_n 3, 1) := by decide +kernel
theorem dX8_dear_27 : decode cX8_dear 27 = .ok (.aload_n 0, 1) := by decide +kernel
theorem dX8_dear_28 : decode cX8_dear 28 = .ok (.getfield 42, 3) := by decide +kernel
theorem dX8_dear_31 : decode cX8_dear 31 = .ok (.iload_n 3, 1) := by decide +kernel
theorem dX8_dear_32 : decode cX8_dear 32 = .ok (.bipush 100, 2) := by decide +kernel
theorem dX8_dear_34 : decode cX8_dear 34 = .ok (.irem, 1) := by decide +kernel
theorem dX8_dear_35 : decode cX8_dear 35 = .ok (.iload_n 3, 1) := by decide +kernel
theorem dX8_dear_36 : decode cX8_dear 36 = .ok (.bipush 100, 2) := by decide +kernel
theorem dX8_dear_38 : decode cX8_dear 38 = .ok (.idiv, 1) := by decide +kernel
theorem dX8_dear_39 : decode cX8_dear 39 = .ok (.invokevirtual 272, 3) := by decide +kernel
theorem dX8_dear_42 : decode cX8_dear 42 = .ok (.ifCond .eq 19, 3) := by decide +kernel
theorem dX8_dear_45 : decode cX8_dear 45 = .ok (.iload_n 1, 1) := by decide +kernel
theorem dX8_dear_46 : decode cX8_dear 46 = .ok (.aload_n 0, 1) := by decide +kernel
theorem dX8_dear_47 : decode cX8_dear 47 = .ok (.getfield 49, 3) := by decide +kernel
theorem dX8_dear_50 : decode cX8_dear 50 = .ok (.getfield 229, 3) := by decide +kernel
theorem dX8_dear_53 : decode cX8_dear 53 = .ok (.iload_n 2, 1) := by decide +kernel
theorem dX8_dear_54 : decode cX8_dear 54 = .ok (.invokevirtual 160, 3) := by decide +kernel
theorem dX8_dear_57 : decode cX8_dear 57 = .ok (.iconst 2, 1) := by decide +kernel
theorem dX8_dear_58 : decode cX8_dear 58 = .ok (.idiv, 1) := by decide +kernel
theorem dX8_dear_59 : decode cX8_dear 59 = .ok (.iadd, 1) := by decide +kernel
theorem dX8_dear_60 : decode cX8_dear 60 = .ok (.istore_n 1, 1) := by decide +kernel
theorem dX8_dear_61 : decode cX8_dear 61 = .ok (.iinc 2 1, 3) := by decide +kernel
theorem dX8_dear_64 : decode cX8_dear 64 = .ok (.goto (-60), 3) := by decide +kernel
theorem dX8_dear_67 : decode cX8_dear 67 = .ok (.iload_n 1, 1) := by decide +kernel
theorem dX8_dear_68 : decode cX8_dear 68 = .ok (.ireturn, 1) := by decide +kernel
theorem dX8_carvedShare_0 : decode cX8_carvedShare 0 = .ok (.aload_n 0, 1) := by decide +kernel
theorem dX8_carvedShare_1 : decode cX8_carvedShare 1 = .ok (.getfield 49, 3) := by decide +kernel
theorem dX8_carvedShare_4 : decode cX8_carvedShare 4 = .ok (.getfield 125, 3) := by decide +kernel
theorem dX8_carvedShare_7 : decode cX8_carvedShare 7 = .ok (.ifCond .ne 7, 3) := by decide +kernel
theorem dX8_carvedShare_10 : decode cX8_carvedShare 10 = .ok (.fconst 1, 1) := by decide +kernel
theorem dX8_carvedShare_11 : decode cX8_carvedShare 11 = .ok (.goto 20, 3) := by decide +kernel
theorem dX8_carvedShare_14 : decode cX8_carvedShare 14 = .ok (.aload_n 0, 1) := by decide +kernel
theorem dX8_carvedShare_15 : decode cX8_carvedShare 15 = .ok (.getfield 42, 3) := by decide +kernel
theorem dX8_carvedShare_18 : decode cX8_carvedShare 18 = .ok (.getfield 128, 3) := by decide +kernel
theorem dX8_carvedShare_21 : decode cX8_carvedShare 21 = .ok (.i2f, 1) := by decide +kernel
theorem dX8_carvedShare_22 : decode cX8_carvedShare 22 = .ok (.aload_n 0, 1) := by decide +kernel
theorem dX8_carvedShare_23 : decode cX8_carvedShare 23 = .ok (.getfield 49, 3) := by decide +kernel
theorem dX8_carvedShare_26 : decode cX8_carvedShare 26 = .ok (.getfield 125, 3) := by decide +kernel
theorem dX8_carvedShare_29 : decode cX8_carvedShare 29 = .ok (.i2f, 1) := by decide +kernel
theorem dX8_carvedShare_30 : decode cX8_carvedShare 30 = .ok (.fdiv, 1) := by decide +kernel
theorem dX8_carvedShare_31 : decode cX8_carvedShare 31 = .ok (.freturn, 1) := by decide +kernel
theorem dX8_meanStrokes_0 : decode cX8_meanStrokes 0 = .ok (.aload_n 0, 1) := by decide +kernel
theorem dX8_meanStrokes_1 : decode cX8_meanStrokes 1 = .ok (.getfield 49, 3) := by decide +kernel
theorem dX8_meanStrokes_4 : decode cX8_meanStrokes 4 = .ok (.iconst 0, 1) := by decide +kernel
theorem dX8_meanStrokes_5 : decode cX8_meanStrokes 5 = .ok (.aload_n 0, 1) := by decide +kernel
theorem dX8_meanStrokes_6 : decode cX8_meanStrokes 6 = .ok (.getfield 49, 3) := by decide +kernel
theorem dX8_meanStrokes_9 : decode cX8_meanStrokes 9 = .ok (.getfield 125, 3) := by decide +kernel
theorem dX8_meanStrokes_12 : decode cX8_meanStrokes 12 = .ok (.invokevirtual 219, 3) := by decide +kernel
theorem dX8_meanStrokes_15 : decode cX8_meanStrokes 15 = .ok (.istore_n 1, 1) := by decide +kernel
theorem dX8_meanStrokes_16 : decode cX8_meanStrokes 16 = .ok (.aload_n 0, 1) := by decide +kernel
theorem dX8_meanStrokes_17 : decode cX8_meanStrokes 17 = .ok (.getfield 49, 3) := by decide +kernel
theorem dX8_meanStrokes_20 : decode cX8_meanStrokes 20 = .ok (.getfield 125, 3) := by decide +kernel
theorem dX8_meanStrokes_23 : decode cX8_meanStrokes 23 = .ok (.ifCond .ne 7, 3) := by decide +kernel
theorem dX8_meanStrokes_26 : decode cX8_meanStrokes 26 = .ok (.dconst 0, 1) := by decide +kernel
theorem dX8_meanStrokes_27 : decode cX8_meanStrokes 27 = .ok (.goto 14, 3) := by decide +kernel
theorem dX8_meanStrokes_30 : decode cX8_meanStrokes 30 = .ok (.iload_n 1, 1) := by decide +kernel
theorem dX8_meanStrokes_31 : decode cX8_meanStrokes 31 = .ok (.i2d, 1) := by decide +kernel
theorem dX8_meanStrokes_32 : decode cX8_meanStrokes 32 = .ok (.aload_n 0, 1) := by decide +kernel
theorem dX8_meanStrokes_33 : decode cX8_meanStrokes 33 = .ok (.getfield 49, 3) := by decide +kernel
theorem dX8_meanStrokes_36 : decode cX8_meanStrokes 36 = .ok (.getfield 125, 3) := by decide +kernel
theorem dX8_meanStrokes_39 : decode cX8_meanStrokes 39 = .ok (.i2d, 1) := by decide +kernel
theorem dX8_meanStrokes_40 : decode cX8_meanStrokes 40 = .ok (.ddiv, 1) := by decide +kernel
theorem dX8_meanStrokes_41 : decode cX8_meanStrokes 41 = .ok (.dreturn, 1) := by decide +kernel
theorem dX8_addPart_0 : decode cX8_addPart 0 = .ok (.aload_n 0, 1) := by decide +kernel
theorem dX8_addPart_1 : decode cX8_addPart 1 = .ok (.getfield 53, 3) := by decide +kernel
theorem dX8_addPart_4 : decode cX8_addPart 4 = .ok (.aload_n 0, 1) := by decide +kernel
theorem dX8_addPart_5 : decode cX8_addPart 5 = .ok (.getfield 42, 3) := by decide +kernel
theorem dX8_addPart_8 : decode cX8_addPart 8 = .ok (.invokevirtual 241, 3) := by decide +kernel
theorem dX8_addPart_11 : decode cX8_addPart 11 = .ok (.aload_n 0, 1) := by decide +kernel
theorem dX8_addPart_12 : decode cX8_addPart 12 = .ok (.iload_n 1, 1) := by decide +kernel
theorem dX8_addPart_13 : decode cX8_addPart 13 = .ok (.invokevirtual 275, 3) := by decide +kernel
theorem dX8_addPart_16 : decode cX8_addPart 16 = .ok (.istore_n 2, 1) := by decide +kernel
theorem dX8_addPart_17 : decode cX8_addPart 17 = .ok (.aload_n 0, 1) := by decide +kernel
theorem dX8_addPart_18 : decode cX8_addPart 18 = .ok (.getfield 14, 3) := by decide +kernel
theorem dX8_addPart_21 : decode cX8_addPart 21 = .ok (.iconst 0, 1) := by decide +kernel
theorem dX8_addPart_22 : decode cX8_addPart 22 = .ok (.putfield 77, 3) := by decide +kernel
theorem dX8_addPart_25 : decode cX8_addPart 25 = .ok (.iload_n 2, 1) := by decide +kernel
theorem dX8_addPart_26 : decode cX8_addPart 26 = .ok (.ifCond .eq 12, 3) := by decide +kernel
theorem dX8_addPart_29 : decode cX8_addPart 29 = .ok (.iload_n 1, 1) := by decide +kernel
theorem dX8_addPart_30 : decode cX8_addPart 30 = .ok (.ifCond .lt 8, 3) := by decide +kernel
theorem dX8_addPart_33 : decode cX8_addPart 33 = .ok (.iload_n 1, 1) := by decide +kernel
theorem dX8_addPart_34 : decode cX8_addPart 34 = .ok (.iconst 2, 1) := by decide +kernel
theorem dX8_addPart_35 : decode cX8_addPart 35 = .ok (.if_icmp .le 11, 3) := by decide +kernel
theorem dX8_addPart_38 : decode cX8_addPart 38 = .ok (.new 87, 3) := by decide +kernel
theorem dX8_addPart_41 : decode cX8_addPart 41 = .ok (.dup, 1) := by decide +kernel
theorem dX8_addPart_42 : decode cX8_addPart 42 = .ok (.invokespecial 89, 3) := by decide +kernel
theorem dX8_addPart_45 : decode cX8_addPart 45 = .ok (.athrow, 1) := by decide +kernel
theorem dX8_addPart_46 : decode cX8_addPart 46 = .ok (.aload_n 0, 1) := by decide +kernel
theorem dX8_addPart_47 : decode cX8_addPart 47 = .ok (.getfield 42, 3) := by decide +kernel
theorem dX8_addPart_50 : decode cX8_addPart 50 = .ok (.getfield 119, 3) := by decide +kernel
theorem dX8_addPart_53 : decode cX8_addPart 53 = .ok (.bipush 10, 2) := by decide +kernel
theorem dX8_addPart_55 : decode cX8_addPart 55 = .ok (.if_icmp .ge 17, 3) := by decide +kernel
theorem dX8_addPart_58 : decode cX8_addPart 58 = .ok (.aload_n 0, 1) := by decide +kernel
theorem dX8_addPart_59 : decode cX8_addPart 59 = .ok (.getfield 42, 3) := by decide +kernel
theorem dX8_addPart_62 : decode cX8_addPart 62 = .ok (.getfield 122, 3) := by decide +kernel
theorem dX8_addPart_65 : decode cX8_addPart 65 = .ok (.iload_n 2, 1) := by decide +kernel
theorem dX8_addPart_66 : decode cX8_addPart 66 = .ok (.iadd, 1) := by decide +kernel
theorem dX8_addPart_67 : decode cX8_addPart 67 = .ok (.bipush 60, 2) := by decide +kernel
theorem dX8_addPart_69 : decode cX8_addPart 69 = .ok (.if_icmp .le 11, 3) := by decide +kernel
theorem dX8_addPart_72 : decode cX8_addPart 72 = .ok (.new 81, 3) := by decide +kernel
theorem dX8_addPart_75 : decode cX8_addPart 75 = .ok (.dup, 1) := by decide +kernel
theorem dX8_addPart_76 : decode cX8_addPart 76 = .ok (.invokespecial 83, 3) := by decide +kernel
theorem dX8_addPart_79 : decode cX8_addPart 79 = .ok (.athrow, 1) := by decide +kernel
theorem dX8_addPart_80 : decode cX8_addPart 80 = .ok (.aload_n 0, 1) := by decide +kernel
theorem dX8_addPart_81 : decode cX8_addPart 81 = .ok (.invokevirtual 94, 3) := by decide +kernel
theorem dX8_addPart_84 : decode cX8_addPart 84 = .ok (.aload_n 0, 1) := by decide +kernel
theorem dX8_addPart_85 : decode cX8_addPart 85 = .ok (.getfield 42, 3) := by decide +kernel
theorem dX8_addPart_88 : decode cX8_addPart 88 = .ok (.getfield 119, 3) := by decide +kernel
theorem dX8_addPart_91 : decode cX8_addPart 91 = .ok (.iconst 1, 1) := by decide +kernel
theorem dX8_addPart_92 : decode cX8_addPart 92 = .ok (.isub, 1) := by decide +kernel
theorem dX8_addPart_93 : decode cX8_addPart 93 = .ok (.ireturn, 1) := by decide +kernel
theorem dX8_dropPart_0 : decode cX8_dropPart 0 = .ok (.aload_n 0, 1) := by decide +kernel
theorem dX8_dropPart_1 : decode cX8_dropPart 1 = .ok (.iload_n 1, 1) := by decide +kernel
theorem dX8_dropPart_2 : decode cX8_dropPart 2 = .ok (.invokevirtual 149, 3) := by decide +kernel
theorem dX8_dropPart_5 : decode cX8_dropPart 5 = .ok (.aload_n 0, 1) := by decide +kernel
theorem dX8_dropPart_6 : decode cX8_dropPart 6 = .ok (.iload_n 1, 1) := by decide +kernel
theorem dX8_dropPart_7 : decode cX8_dropPart 7 = .ok (.invokevirtual 263, 3) := by decide +kernel
theorem dX8_dropPart_10 : decode cX8_dropPart 10 = .ok (.aload_n 0, 1) := by decide +kernel
theorem dX8_dropPart_11 : decode cX8_dropPart 11 = .ok (.invokevirtual 278, 3) := by decide +kernel
theorem dX8_dropPart_14 : decode cX8_dropPart 14 = .ok (.aload_n 0, 1) := by decide +kernel
theorem dX8_dropPart_15 : decode cX8_dropPart 15 = .ok (.invokevirtual 94, 3) := by decide +kernel
theorem dX8_dropPart_18 : decode cX8_dropPart 18 = .ok (.aload_n 0, 1) := by decide +kernel
theorem dX8_dropPart_19 : decode cX8_dropPart 19 = .ok (.getfield 49, 3) := by decide +kernel
theorem dX8_dropPart_22 : decode cX8_dropPart 22 = .ok (.getfield 97, 3) := by decide +kernel
theorem dX8_dropPart_25 : decode cX8_dropPart 25 = .ok (.ireturn, 1) := by decide +kernel
theorem dX8_movePart_0 : decode cX8_movePart 0 = .ok (.aload_n 0, 1) := by decide +kernel
theorem dX8_movePart_1 : decode cX8_movePart 1 = .ok (.iload_n 1, 1) := by decide +kernel
theorem dX8_movePart_2 : decode cX8_movePart 2 = .ok (.invokevirtual 149, 3) := by decide +kernel
theorem dX8_movePart_5 : decode cX8_movePart 5 = .ok (.aload_n 0, 1) := by decide +kernel
theorem dX8_movePart_6 : decode cX8_movePart 6 = .ok (.iload_n 2, 1) := by decide +kernel
theorem dX8_movePart_7 : decode cX8_movePart 7 = .ok (.invokevirtual 149, 3) := by decide +kernel
theorem dX8_movePart_10 : decode cX8_movePart 10 = .ok (.aload_n 0, 1) := by decide +kernel
theorem dX8_movePart_11 : decode cX8_movePart 11 = .ok (.iload_n 1, 1) := by decide +kernel
theorem dX8_movePart_12 : decode cX8_movePart 12 = .ok (.iload_n 2, 1) := by decide +kernel
theorem dX8_movePart_13 : decode cX8_movePart 13 = .ok (.invokevirtual 266, 3) := by decide +kernel
theorem dX8_movePart_16 : decode cX8_movePart 16 = .ok (.aload_n 0, 1) := by decide +kernel
theorem dX8_movePart_17 : decode cX8_movePart 17 = .ok (.invokevirtual 278, 3) := by decide +kernel
theorem dX8_movePart_20 : decode cX8_movePart 20 = .ok (.aload_n 0, 1) := by decide +kernel
theorem dX8_movePart_21 : decode cX8_movePart 21 = .ok (.invokevirtual 94, 3) := by decide +kernel
theorem dX8_movePart_24 : decode cX8_movePart 24 = .ok (.aload_n 0, 1) := by decide +kernel
theorem dX8_movePart_25 : decode cX8_movePart 25 = .ok (.getfield 49, 3) := by decide +kernel
theorem dX8_movePart_28 : decode cX8_movePart 28 = .ok (.getfield 97, 3) := by decide +kernel
theorem dX8_movePart_31 : decode cX8_movePart 31 = .ok (.ireturn, 1) := by decide +kernel
theorem dX8_setFlaw_0 : decode cX8_setFlaw 0 = .ok (.aload_n 0, 1) := by decide +kernel
theorem dX8_setFlaw_1 : decode cX8_setFlaw 1 = .ok (.iload_n 1, 1) := by decide +kernel
theorem dX8_setFlaw_2 : decode cX8_setFlaw 2 = .ok (.iload_n 2, 1) := by decide +kernel
theorem dX8_setFlaw_3 : decode cX8_setFlaw 3 = .ok (.invokevirtual 204, 3) := by decide +kernel
theorem dX8_setFlaw_6 : decode cX8_setFlaw 6 = .ok (.aload_n 0, 1) := by decide +kernel
theorem dX8_setFlaw_7 : decode cX8_setFlaw 7 = .ok (.getfield 42, 3) := by decide +kernel
theorem dX8_setFlaw_10 : decode cX8_setFlaw 10 = .ok (.iload_n 1, 1) := by decide +kernel
theorem dX8_setFlaw_11 : decode cX8_setFlaw 11 = .ok (.iload_n 2, 1) := by decide +kernel
theorem dX8_setFlaw_12 : decode cX8_setFlaw 12 = .ok (.invokevirtual 208, 3) := by decide +kernel
theorem dX8_setFlaw_15 : decode cX8_setFlaw 15 = .ok (.istore 4, 2) := by decide +kernel
theorem dX8_setFlaw_17 : decode cX8_setFlaw 17 = .ok (.iload_n 3, 1) := by decide +kernel
theorem dX8_setFlaw_18 : decode cX8_setFlaw 18 = .ok (.ifCond .eq 28, 3) := by decide +kernel
theorem dX8_setFlaw_21 : decode cX8_setFlaw 21 = .ok (.iload 4, 2) := by decide +kernel
theorem dX8_setFlaw_23 : decode cX8_setFlaw 23 = .ok (.ifCond .ne 23, 3) := by decide +kernel
theorem dX8_setFlaw_26 : decode cX8_setFlaw 26 = .ok (.aload_n 0, 1) := by decide +kernel
theorem dX8_setFlaw_27 : decode cX8_setFlaw 27 = .ok (.getfield 42, 3) := by decide +kernel
theorem dX8_setFlaw_30 : decode cX8_setFlaw 30 = .ok (.invokevirtual 112, 3) := by decide +kernel
theorem dX8_setFlaw_33 : decode cX8_setFlaw 33 = .ok (.bipush 40, 2) := by decide +kernel
theorem dX8_setFlaw_35 : decode cX8_setFlaw 35 = .ok (.if_icmp .lt 11, 3) := by decide +kernel
theorem dX8_setFlaw_38 : decode cX8_setFlaw 38 = .ok (.new 81, 3) := by decide +kernel
theorem dX8_setFlaw_41 : decode cX8_setFlaw 41 = .ok (.dup, 1) := by decide +kernel
theorem dX8_setFlaw_42 : decode cX8_setFlaw 42 = .ok (.invokespecial 83, 3) := by decide +kernel
theorem dX8_setFlaw_45 : decode cX8_setFlaw 45 = .ok (.athrow, 1) := by decide +kernel
theorem dX8_setFlaw_46 : decode cX8_setFlaw 46 = .ok (.aload_n 0, 1) := by decide +kernel
theorem dX8_setFlaw_47 : decode cX8_setFlaw 47 = .ok (.getfield 53, 3) := by decide +kernel
theorem dX8_setFlaw_50 : decode cX8_setFlaw 50 = .ok (.aload_n 0, 1) := by decide +kernel
theorem dX8_setFlaw_51 : decode cX8_setFlaw 51 = .ok (.getfield 42, 3) := by decide +kernel
theorem dX8_setFlaw_54 : decode cX8_setFlaw 54 = .ok (.invokevirtual 241, 3) := by decide +kernel
theorem dX8_setFlaw_57 : decode cX8_setFlaw 57 = .ok (.aload_n 0, 1) := by decide +kernel
theorem dX8_setFlaw_58 : decode cX8_setFlaw 58 = .ok (.getfield 53, 3) := by decide +kernel
theorem dX8_setFlaw_61 : decode cX8_setFlaw 61 = .ok (.iload_n 1, 1) := by decide +kernel
theorem dX8_setFlaw_62 : decode cX8_setFlaw 62 = .ok (.iload_n 2, 1) := by decide +kernel
theorem dX8_setFlaw_63 : decode cX8_setFlaw 63 = .ok (.iload_n 3, 1) := by decide +kernel
theorem dX8_setFlaw_64 : decode cX8_setFlaw 64 = .ok (.invokevirtual 244, 3) := by decide +kernel
theorem dX8_setFlaw_67 : decode cX8_setFlaw 67 = .ok (.aload_n 0, 1) := by decide +kernel
theorem dX8_setFlaw_68 : decode cX8_setFlaw 68 = .ok (.invokevirtual 278, 3) := by decide +kernel
theorem dX8_setFlaw_71 : decode cX8_setFlaw 71 = .ok (.aload_n 0, 1) := by decide +kernel
theorem dX8_setFlaw_72 : decode cX8_setFlaw 72 = .ok (.invokevirtual 94, 3) := by decide +kernel
theorem dX8_setFlaw_75 : decode cX8_setFlaw 75 = .ok (.iload 4, 2) := by decide +kernel
theorem dX8_setFlaw_77 : decode cX8_setFlaw 77 = .ok (.ireturn, 1) := by decide +kernel
theorem dX8_setGap_0 : decode cX8_setGap 0 = .ok (.aload_n 0, 1) := by decide +kernel
theorem dX8_setGap_1 : decode cX8_setGap 1 = .ok (.iload_n 1, 1) := by decide +kernel
theorem dX8_setGap_2 : decode cX8_setGap 2 = .ok (.invokevirtual 257, 3) := by decide +kernel
theorem dX8_setGap_5 : decode cX8_setGap 5 = .ok (.aload_n 0, 1) := by decide +kernel
theorem dX8_setGap_6 : decode cX8_setGap 6 = .ok (.getfield 42, 3) := by decide +kernel
theorem dX8_setGap_9 : decode cX8_setGap 9 = .ok (.getfield 116, 3) := by decide +kernel
theorem dX8_setGap_12 : decode cX8_setGap 12 = .ok (.istore_n 2, 1) := by decide +kernel
theorem dX8_setGap_13 : decode cX8_setGap 13 = .ok (.aload_n 0, 1) := by decide +kernel
theorem dX8_setGap_14 : decode cX8_setGap 14 = .ok (.getfield 53, 3) := by decide +kernel
theorem dX8_setGap_17 : decode cX8_setGap 17 = .ok (.aload_n 0, 1) := by decide +kernel
theorem dX8_setGap_18 : decode cX8_setGap 18 = .ok (.getfield 42, 3) := by decide +kernel
theorem dX8_setGap_21 : decode cX8_setGap 21 = .ok (.invokevirtual 241, 3) := by decide +kernel
theorem dX8_setGap_24 : decode cX8_setGap 24 = .ok (.aload_n 0, 1) := by decide +kernel
theorem dX8_setGap_25 : decode cX8_setGap 25 = .ok (.getfield 53, 3) := by decide +kernel
theorem dX8_setGap_28 : decode cX8_setGap 28 = .ok (.iload_n 1, 1) := by decide +kernel
theorem dX8_setGap_29 : decode cX8_setGap 29 = .ok (.putfield 116, 3) := by decide +kernel
theorem dX8_setGap_32 : decode cX8_setGap 32 = .ok (.aload_n 0, 1) := by decide +kernel
theorem dX8_setGap_33 : decode cX8_setGap 33 = .ok (.invokevirtual 278, 3) := by decide +kernel
theorem dX8_setGap_36 : decode cX8_setGap 36 = .ok (.aload_n 0, 1) := by decide +kernel
theorem dX8_setGap_37 : decode cX8_setGap 37 = .ok (.invokevirtual 94, 3) := by decide +kernel
theorem dX8_setGap_40 : decode cX8_setGap 40 = .ok (.iload_n 2, 1) := by decide +kernel
theorem dX8_setGap_41 : decode cX8_setGap 41 = .ok (.ireturn, 1) := by decide +kernel
theorem dX8_turnSlab_0 : decode cX8_turnSlab 0 = .ok (.aload_n 0, 1) := by decide +kernel
theorem dX8_turnSlab_1 : decode cX8_turnSlab 1 = .ok (.getfield 42, 3) := by decide +kernel
theorem dX8_turnSlab_4 : decode cX8_turnSlab 4 = .ok (.getfield 128, 3) := by decide +kernel
theorem dX8_turnSlab_7 : decode cX8_turnSlab 7 = .ok (.ifCond .le 11, 3) := by decide +kernel
theorem dX8_turnSlab_10 : decode cX8_turnSlab 10 = .ok (.new 81, 3) := by decide +kernel
theorem dX8_turnSlab_13 : decode cX8_turnSlab 13 = .ok (.dup, 1) := by decide +kernel
theorem dX8_turnSlab_14 : decode cX8_turnSlab 14 = .ok (.invokespecial 83, 3) := by decide +kernel
theorem dX8_turnSlab_17 : decode cX8_turnSlab 17 = .ok (.athrow, 1) := by decide +kernel
theorem dX8_turnSlab_18 : decode cX8_turnSlab 18 = .ok (.aload_n 0, 1) := by decide +kernel
theorem dX8_turnSlab_19 : decode cX8_turnSlab 19 = .ok (.getfield 53, 3) := by decide +kernel
theorem dX8_turnSlab_22 : decode cX8_turnSlab 22 = .ok (.aload_n 0, 1) := by decide +kernel
theorem dX8_turnSlab_23 : decode cX8_turnSlab 23 = .ok (.getfield 42, 3) := by decide +kernel
theorem dX8_turnSlab_26 : decode cX8_turnSlab 26 = .ok (.invokevirtual 241, 3) := by decide +kernel
theorem dX8_turnSlab_29 : decode cX8_turnSlab 29 = .ok (.aload_n 0, 1) := by decide +kernel
theorem dX8_turnSlab_30 : decode cX8_turnSlab 30 = .ok (.getfield 53, 3) := by decide +kernel
theorem dX8_turnSlab_33 : decode cX8_turnSlab 33 = .ok (.aload_n 0, 1) := by decide +kernel
theorem dX8_turnSlab_34 : decode cX8_turnSlab 34 = .ok (.getfield 42, 3) := by decide +kernel
theorem dX8_turnSlab_37 : decode cX8_turnSlab 37 = .ok (.invokevirtual 260, 3) := by decide +kernel
theorem dX8_turnSlab_40 : decode cX8_turnSlab 40 = .ok (.aload_n 0, 1) := by decide +kernel
theorem dX8_turnSlab_41 : decode cX8_turnSlab 41 = .ok (.invokevirtual 94, 3) := by decide +kernel
theorem dX8_turnSlab_44 : decode cX8_turnSlab 44 = .ok (.aload_n 0, 1) := by decide +kernel
theorem dX8_turnSlab_45 : decode cX8_turnSlab 45 = .ok (.getfield 49, 3) := by decide +kernel
theorem dX8_turnSlab_48 : decode cX8_turnSlab 48 = .ok (.getfield 97, 3) := by decide +kernel
theorem dX8_turnSlab_51 : decode cX8_turnSlab 51 = .ok (.ireturn, 1) := by decide +kernel
theorem dX8_cutRows_0 : decode cX8_cutRows 0 = .ok (.iload_n 1, 1) := by decide +kernel
theorem dX8_cutRows_1 : decode cX8_cutRows 1 = .ok (.iconst 1, 1) := by decide +kernel
theorem dX8_cutRows_2 : decode cX8_cutRows 2 = .ok (.if_icmp .lt 16, 3) := by decide +kernel
theorem dX8_cutRows_5 : decode cX8_cutRows 5 = .ok (.iload_n 1, 1) := by decide +kernel
theorem dX8_cutRows_6 : decode cX8_cutRows 6 = .ok (.aload_n 0, 1) := by decide +kernel
theorem dX8_cutRows_7 : decode cX8_cutRows 7 = .ok (.getfield 42, 3) := by decide +kernel
theorem dX8_cutRows_10 : decode cX8_cutRows 10 = .ok (.getfield 109, 3) := by decide +kernel
theorem dX8_cutRows_13 : decode cX8_cutRows 13 = .ok (.iconst 2, 1) := by decide +kernel
theorem dX8_cutRows_14 : decode cX8_cutRows 14 = .ok (.isub, 1) := by decide +kernel
theorem dX8_cutRows_15 : decode cX8_cutRows 15 = .ok (.if_icmp .le 11, 3) := by decide +kernel
theorem dX8_cutRows_18 : decode cX8_cutRows 18 = .ok (.new 87, 3) := by decide +kernel
theorem dX8_cutRows_21 : decode cX8_cutRows 21 = .ok (.dup, 1) := by decide +kernel
theorem dX8_cutRows_22 : decode cX8_cutRows 22 = .ok (.invokespecial 89, 3) := by decide +kernel
theorem dX8_cutRows_25 : decode cX8_cutRows 25 = .ok (.athrow, 1) := by decide +kernel
theorem dX8_cutRows_26 : decode cX8_cutRows 26 = .ok (.iload_n 2, 1) := by decide +kernel
theorem dX8_cutRows_27 : decode cX8_cutRows 27 = .ok (.ifCond .eq 21, 3) := by decide +kernel
theorem dX8_cutRows_30 : decode cX8_cutRows 30 = .ok (.aload_n 0, 1) := by decide +kernel
theorem dX8_cutRows_31 : decode cX8_cutRows 31 = .ok (.getfield 42, 3) := by decide +kernel
theorem dX8_cutRows_34 : decode cX8_cutRows 34 = .ok (.getfield 128, 3) := by decide +kernel
theorem dX8_cutRows_37 : decode cX8_cutRows 37 = .ok (.ifCond .le 11, 3) := by decide +kernel
theorem dX8_cutRows_40 : decode cX8_cutRows 40 = .ok (.new 81, 3) := by decide +kernel
theorem dX8_cutRows_43 : decode cX8_cutRows 43 = .ok (.dup, 1) := by decide +kernel
theorem dX8_cutRows_44 : decode cX8_cutRows 44 = .ok (.invokespecial 83, 3) := by decide +kernel
theorem dX8_cutRows_47 : decode cX8_cutRows 47 = .ok (.athrow, 1) := by decide +kernel
theorem dX8_cutRows_48 : decode cX8_cutRows 48 = .ok (.aload_n 0, 1) := by decide +kernel
theorem dX8_cutRows_49 : decode cX8_cutRows 49 = .ok (.getfield 53, 3) := by decide +kernel
theorem dX8_cutRows_52 : decode cX8_cutRows 52 = .ok (.aload_n 0, 1) := by decide +kernel
theorem dX8_cutRows_53 : decode cX8_cutRows 53 = .ok (.getfield 42, 3) := by decide +kernel
theorem dX8_cutRows_56 : decode cX8_cutRows 56 = .ok (.invokevirtual 241, 3) := by decide +kernel
theorem dX8_cutRows_59 : decode cX8_cutRows 59 = .ok (.aload_n 0, 1) := by decide +kernel
theorem dX8_cutRows_60 : decode cX8_cutRows 60 = .ok (.getfield 53, 3) := by decide +kernel
theorem dX8_cutRows_63 : decode cX8_cutRows 63 = .ok (.iload_n 1, 1) := by decide +kernel
theorem dX8_cutRows_64 : decode cX8_cutRows 64 = .ok (.iload_n 2, 1) := by decide +kernel
theorem dX8_cutRows_65 : decode cX8_cutRows 65 = .ok (.invokevirtual 281, 3) := by decide +kernel
theorem dX8_cutRows_68 : decode cX8_cutRows 68 = .ok (.aload_n 0, 1) := by decide +kernel
theorem dX8_cutRows_69 : decode cX8_cutRows 69 = .ok (.invokevirtual 278, 3) := by decide +kernel
theorem dX8_cutRows_72 : decode cX8_cutRows 72 = .ok (.aload_n 0, 1) := by decide +kernel
theorem dX8_cutRows_73 : decode cX8_cutRows 73 = .ok (.invokevirtual 94, 3) := by decide +kernel
theorem dX8_cutRows_76 : decode cX8_cutRows 76 = .ok (.aload_n 0, 1) := by decide +kernel
theorem dX8_cutRows_77 : decode cX8_cutRows 77 = .ok (.getfield 49, 3) := by decide +kernel
theorem dX8_cutRows_80 : decode cX8_cutRows 80 = .ok (.getfield 97, 3) := by decide +kernel
theorem dX8_cutRows_83 : decode cX8_cutRows 83 = .ok (.ireturn, 1) := by decide +kernel
theorem dX8_carve_0 : decode cX8_carve 0 = .ok (.iload_n 1, 1) := by decide +kernel
theorem dX8_carve_1 : decode cX8_carve 1 = .ok (.iconst 1, 1) := by decide +kernel
theorem dX8_carve_2 : decode cX8_carve 2 = .ok (.if_icmp .lt 10, 3) := by decide +kernel
theorem dX8_carve_5 : decode cX8_carve 5 = .ok (.iload_n 1, 1) := by decide +kernel
theorem dX8_carve_6 : decode cX8_carve 6 = .ok (.sipush 300, 3) := by decide +kernel
theorem dX8_carve_9 : decode cX8_carve 9 = .ok (.if_icmp .le 11, 3) := by decide +kernel
theorem dX8_carve_12 : decode cX8_carve 12 = .ok (.new 87, 3) := by decide +kernel
theorem dX8_carve_15 : decode cX8_carve 15 = .ok (.dup, 1) := by decide +kernel
theorem dX8_carve_16 : decode cX8_carve 16 = .ok (.invokespecial 89, 3) := by decide +kernel
theorem dX8_carve_19 : decode cX8_carve 19 = .ok (.athrow, 1) := by decide +kernel
theorem dX8_carve_20 : decode cX8_carve 20 = .ok (.aload_n 0, 1) := by decide +kernel
theorem dX8_carve_21 : decode cX8_carve 21 = .ok (.getfield 42, 3) := by decide +kernel
theorem dX8_carve_24 : decode cX8_carve 24 = .ok (.getfield 131, 3) := by decide +kernel
theorem dX8_carve_27 : decode cX8_carve 27 = .ok (.getfield 143, 3) := by decide +kernel
theorem dX8_carve_30 : decode cX8_carve 30 = .ok (.istore_n 2, 1) := by decide +kernel
theorem dX8_carve_31 : decode cX8_carve 31 = .ok (.aload_n 0, 1) := by decide +kernel
theorem dX8_carve_32 : decode cX8_carve 32 = .ok (.getfield 42, 3) := by decide +kernel
theorem dX8_carve_35 : decode cX8_carve 35 = .ok (.getfield 128, 3) := by decide +kernel
theorem dX8_carve_38 : decode cX8_carve 38 = .ok (.iload_n 1, 1) := by decide +kernel
theorem dX8_carve_39 : decode cX8_carve 39 = .ok (.iadd, 1) := by decide +kernel
theorem dX8_carve_40 : decode cX8_carve 40 = .ok (.aload_n 0, 1) := by decide +kernel
theorem dX8_carve_41 : decode cX8_carve 41 = .ok (.getfield 49, 3) := by decide +kernel
theorem dX8_carve_44 : decode cX8_carve 44 = .ok (.getfield 125, 3) := by decide +kernel
theorem dX8_carve_47 : decode cX8_carve 47 = .ok (.invokestatic 165, 3) := by decide +kernel
theorem dX8_carve_50 : decode cX8_carve 50 = .ok (.istore_n 3, 1) := by decide +kernel
theorem dX8_carve_51 : decode cX8_carve 51 = .ok (.aload_n 0, 1) := by decide +kernel
theorem dX8_carve_52 : decode cX8_carve 52 = .ok (.getfield 53, 3) := by decide +kernel
theorem dX8_carve_55 : decode cX8_carve 55 = .ok (.aload_n 0, 1) := by decide +kernel
theorem dX8_carve_56 : decode cX8_carve 56 = .ok (.getfield 42, 3) := by decide +kernel
theorem dX8_carve_59 : decode cX8_carve 59 = .ok (.invokevirtual 241, 3) := by decide +kernel
theorem dX8_carve_62 : decode cX8_carve 62 = .ok (.aload_n 0, 1) := by decide +kernel
theorem dX8_carve_63 : decode cX8_carve 63 = .ok (.getfield 42, 3) := by decide +kernel
theorem dX8_carve_66 : decode cX8_carve 66 = .ok (.getfield 128, 3) := by decide +kernel
theorem dX8_carve_69 : decode cX8_carve 69 = .ok (.istore 4, 2) := by decide +kernel
theorem dX8_carve_71 : decode cX8_carve 71 = .ok (.iload 4, 2) := by decide +kernel
theorem dX8_carve_73 : decode cX8_carve 73 = .ok (.iload_n 3, 1) := by decide +kernel
theorem dX8_carve_74 : decode cX8_carve 74 = .ok (.if_icmp .ge 31, 3) := by decide +kernel
theorem dX8_carve_77 : decode cX8_carve 77 = .ok (.aload_n 0, 1) := by decide +kernel
theorem dX8_carve_78 : decode cX8_carve 78 = .ok (.getfield 53, 3) := by decide +kernel
theorem dX8_carve_81 : decode cX8_carve 81 = .ok (.getfield 131, 3) := by decide +kernel
theorem dX8_carve_84 : decode cX8_carve 84 = .ok (.aload_n 0, 1) := by decide +kernel
theorem dX8_carve_85 : decode cX8_carve 85 = .ok (.getfield 49, 3) := by decide +kernel
theorem dX8_carve_88 : decode cX8_carve 88 = .ok (.getfield 229, 3) := by decide +kernel
theorem dX8_carve_91 : decode cX8_carve 91 = .ok (.iload 4, 2) := by decide +kernel
theorem dX8_carve_93 : decode cX8_carve 93 = .ok (.invokevirtual 160, 3) := by decide +kernel
theorem dX8_carve_96 : decode cX8_carve 96 = .ok (.invokevirtual 232, 3) := by decide +kernel
theorem dX8_carve_99 : decode cX8_carve 99 = .ok (.iinc 4 1, 3) := by decide +kernel
theorem dX8_carve_102 : decode cX8_carve 102 = .ok (.goto (-31), 3) := by decide +kernel
theorem dX8_carve_105 : decode cX8_carve 105 = .ok (.aload_n 0, 1) := by decide +kernel
theorem dX8_carve_106 : decode cX8_carve 106 = .ok (.getfield 53, 3) := by decide +kernel
theorem dX8_carve_109 : decode cX8_carve 109 = .ok (.iload_n 3, 1) := by decide +kernel
theorem dX8_carve_110 : decode cX8_carve 110 = .ok (.putfield 128, 3) := by decide +kernel
theorem dX8_carve_113 : decode cX8_carve 113 = .ok (.aload_n 0, 1) := by decide +kernel
theorem dX8_carve_114 : decode cX8_carve 114 = .ok (.invokevirtual 94, 3) := by decide +kernel
theorem dX8_carve_117 : decode cX8_carve 117 = .ok (.aload_n 0, 1) := by decide +kernel
theorem dX8_carve_118 : decode cX8_carve 118 = .ok (.getfield 42, 3) := by decide +kernel
theorem dX8_carve_121 : decode cX8_carve 121 = .ok (.getfield 131, 3) := by decide +kernel
theorem dX8_carve_124 : decode cX8_carve 124 = .ok (.getfield 143, 3) := by decide +kernel
theorem dX8_carve_127 : decode cX8_carve 127 = .ok (.iload_n 2, 1) := by decide +kernel
theorem dX8_carve_128 : decode cX8_carve 128 = .ok (.isub, 1) := by decide +kernel
theorem dX8_carve_129 : decode cX8_carve 129 = .ok (.ireturn, 1) := by decide +kernel
theorem dX8_sharpen_0 : decode cX8_sharpen 0 = .ok (.aload_n 0, 1) := by decide +kernel
theorem dX8_sharpen_1 : decode cX8_sharpen 1 = .ok (.getfield 42, 3) := by decide +kernel
theorem dX8_sharpen_4 : decode cX8_sharpen 4 = .ok (.getfield 131, 3) := by decide +kernel
theorem dX8_sharpen_7 : decode cX8_sharpen 7 = .ok (.getfield 134, 3) := by decide +kernel
theorem dX8_sharpen_10 : decode cX8_sharpen 10 = .ok (.istore_n 1, 1) := by decide +kernel
theorem dX8_sharpen_11 : decode cX8_sharpen 11 = .ok (.aload_n 0, 1) := by decide +kernel
theorem dX8_sharpen_12 : decode cX8_sharpen 12 = .ok (.getfield 53, 3) := by decide +kernel
theorem dX8_sharpen_15 : decode cX8_sharpen 15 = .ok (.aload_n 0, 1) := by decide +kernel
theorem dX8_sharpen_16 : decode cX8_sharpen 16 = .ok (.getfield 42, 3) := by decide +kernel
theorem dX8_sharpen_19 : decode cX8_sharpen 19 = .ok (.invokevirtual 241, 3) := by decide +kernel
theorem dX8_sharpen_22 : decode cX8_sharpen 22 = .ok (.aload_n 0, 1) := by decide +kernel
theorem dX8_sharpen_23 : decode cX8_sharpen 23 = .ok (.getfield 53, 3) := by decide +kernel
theorem dX8_sharpen_26 : decode cX8_sharpen 26 = .ok (.getfield 131, 3) := by decide +kernel
theorem dX8_sharpen_29 : decode cX8_sharpen 29 = .ok (.invokevirtual 285, 3) := by decide +kernel
theorem dX8_sharpen_32 : decode cX8_sharpen 32 = .ok (.aload_n 0, 1) := by decide +kernel
theorem dX8_sharpen_33 : decode cX8_sharpen 33 = .ok (.invokevirtual 94, 3) := by decide +kernel
theorem dX8_sharpen_36 : decode cX8_sharpen 36 = .ok (.iload_n 1, 1) := by decide +kernel
theorem dX8_sharpen_37 : decode cX8_sharpen 37 = .ok (.ireturn, 1) := by decide +kernel
theorem dX8_setChisel_0 : decode cX8_setChisel 0 = .ok (.iload_n 1, 1) := by decide +kernel
theorem dX8_setChisel_1 : decode cX8_setChisel 1 = .ok (.iconst 1, 1) := by decide +kernel
theorem dX8_setChisel_2 : decode cX8_setChisel 2 = .ok (.if_icmp .lt 20, 3) := by decide +kernel
theorem dX8_setChisel_5 : decode cX8_setChisel 5 = .ok (.iload_n 1, 1) := by decide +kernel
theorem dX8_setChisel_6 : decode cX8_setChisel 6 = .ok (.sipush 999, 3) := by decide +kernel
theorem dX8_setChisel_9 : decode cX8_setChisel 9 = .ok (.if_icmp .gt 13, 3) := by decide +kernel
theorem dX8_setChisel_12 : decode cX8_setChisel 12 = .ok (.iload_n 2, 1) := by decide +kernel
theorem dX8_setChisel_13 : decode cX8_setChisel 13 = .ok (.ifCond .lt 9, 3) := by decide +kernel
theorem dX8_setChisel_16 : decode cX8_setChisel 16 = .ok (.iload_n 2, 1) := by decide +kernel
theorem dX8_setChisel_17 : decode cX8_setChisel 17 = .ok (.bipush 99, 2) := by decide +kernel
theorem dX8_setChisel_19 : decode cX8_setChisel 19 = .ok (.if_icmp .le 11, 3) := by decide +kernel
theorem dX8_setChisel_22 : decode cX8_setChisel 22 = .ok (.new 87, 3) := by decide +kernel
theorem dX8_setChisel_25 : decode cX8_setChisel 25 = .ok (.dup, 1) := by decide +kernel
theorem dX8_setChisel_26 : decode cX8_setChisel 26 = .ok (.invokespecial 89, 3) := by decide +kernel
theorem dX8_setChisel_29 : decode cX8_setChisel 29 = .ok (.athrow, 1) := by decide +kernel
theorem dX8_setChisel_30 : decode cX8_setChisel 30 = .ok (.bipush 100, 2) := by decide +kernel
theorem dX8_setChisel_32 : decode cX8_setChisel 32 = .ok (.aload_n 0, 1) := by decide +kernel
theorem dX8_setChisel_33 : decode cX8_setChisel 33 = .ok (.getfield 42, 3) := by decide +kernel
theorem dX8_setChisel_36 : decode cX8_setChisel 36 = .ok (.getfield 131, 3) := by decide +kernel
theorem dX8_setChisel_39 : decode cX8_setChisel 39 = .ok (.getfield 137, 3) := by decide +kernel
theorem dX8_setChisel_42 : decode cX8_setChisel 42 = .ok (.imul, 1) := by decide +kernel
theorem dX8_setChisel_43 : decode cX8_setChisel 43 = .ok (.aload_n 0, 1) := by decide +kernel
theorem dX8_setChisel_44 : decode cX8_setChisel 44 = .ok (.getfield 42, 3) := by decide +kernel
theorem dX8_setChisel_47 : decode cX8_setChisel 47 = .ok (.getfield 131, 3) := by decide +kernel
theorem dX8_setChisel_50 : decode cX8_setChisel 50 = .ok (.getfield 140, 3) := by decide +kernel
theorem dX8_setChisel_53 : decode cX8_setChisel 53 = .ok (.iadd, 1) := by decide +kernel
theorem dX8_setChisel_54 : decode cX8_setChisel 54 = .ok (.istore_n 3, 1) := by decide +kernel
theorem dX8_setChisel_55 : decode cX8_setChisel 55 = .ok (.aload_n 0, 1) := by decide +kernel
theorem dX8_setChisel_56 : decode cX8_setChisel 56 = .ok (.getfield 53, 3) := by decide +kernel
theorem dX8_setChisel_59 : decode cX8_setChisel 59 = .ok (.aload_n 0, 1) := by decide +kernel
theorem dX8_setChisel_60 : decode cX8_setChisel 60 = .ok (.getfield 42, 3) := by decide +kernel
theorem dX8_setChisel_63 : decode cX8_setChisel 63 = .ok (.invokevirtual 241, 3) := by decide +kernel
theorem dX8_setChisel_66 : decode cX8_setChisel 66 = .ok (.aload_n 0, 1) := by decide +kernel
theorem dX8_setChisel_67 : decode cX8_setChisel 67 = .ok (.getfield 53, 3) := by decide +kernel
theorem dX8_setChisel_70 : decode cX8_setChisel 70 = .ok (.getfield 131, 3) := by decide +kernel
theorem dX8_setChisel_73 : decode cX8_setChisel 73 = .ok (.iload_n 1, 1) := by decide +kernel
theorem dX8_setChisel_74 : decode cX8_setChisel 74 = .ok (.iload_n 2, 1) := by decide +kernel
theorem dX8_setChisel_75 : decode cX8_setChisel 75 = .ok (.invokevirtual 235, 3) := by decide +kernel
theorem dX8_setChisel_78 : decode cX8_setChisel 78 = .ok (.aload_n 0, 1) := by decide +kernel
theorem dX8_setChisel_79 : decode cX8_setChisel 79 = .ok (.invokevirtual 94, 3) := by decide +kernel
theorem dX8_setChisel_82 : decode cX8_setChisel 82 = .ok (.iload_n 3, 1) := by decide +kernel
theorem dX8_setChisel_83 : decode cX8_setChisel 83 = .ok (.ireturn, 1) := by decide +kernel
theorem dX8_needPart_0 : decode cX8_needPart 0 = .ok (.iload_n 1, 1) := by decide +kernel
theorem dX8_needPart_1 : decode cX8_needPart 1 = .ok (.ifCond .lt 14, 3) := by decide +kernel
theorem dX8_needPart_4 : decode cX8_needPart 4 = .ok (.iload_n 1, 1) := by decide +kernel
theorem dX8_needPart_5 : decode cX8_needPart 5 = .ok (.aload_n 0, 1) := by decide +kernel
theorem dX8_needPart_6 : decode cX8_needPart 6 = .ok (.getfield 42, 3) := by decide +kernel
theorem dX8_needPart_9 : decode cX8_needPart 9 = .ok (.getfield 119, 3) := by decide +kernel
theorem dX8_needPart_12 : decode cX8_needPart 12 = .ok (.if_icmp .lt 11, 3) := by decide +kernel
theorem dX8_needPart_15 : decode cX8_needPart 15 = .ok (.new 198, 3) := by decide +kernel
theorem dX8_needPart_18 : decode cX8_needPart 18 = .ok (.dup, 1) := by decide +kernel
theorem dX8_needPart_19 : decode cX8_needPart 19 = .ok (.invokespecial 200, 3) := by decide +kernel
theorem dX8_needPart_22 : decode cX8_needPart 22 = .ok (.athrow, 1) := by decide +kernel
theorem dX8_needPart_23 : decode cX8_needPart 23 = .ok (.return_, 1) := by decide +kernel
theorem dX8_needWord_0 : decode cX8_needWord 0 = .ok (.iload_n 1, 1) := by decide +kernel
theorem dX8_needWord_1 : decode cX8_needWord 1 = .ok (.ifCond .lt 14, 3) := by decide +kernel
theorem dX8_needWord_4 : decode cX8_needWord 4 = .ok (.iload_n 1, 1) := by decide +kernel
theorem dX8_needWord_5 : decode cX8_needWord 5 = .ok (.aload_n 0, 1) := by decide +kernel
theorem dX8_needWord_6 : decode cX8_needWord 6 = .ok (.getfield 42, 3) := by decide +kernel
theorem dX8_needWord_9 : decode cX8_needWord 9 = .ok (.getfield 122, 3) := by decide +kernel
theorem dX8_needWord_12 : decode cX8_needWord 12 = .ok (.if_icmp .lt 11, 3) := by decide +kernel
theorem dX8_needWord_15 : decode cX8_needWord 15 = .ok (.new 198, 3) := by decide +kernel
theorem dX8_needWord_18 : decode cX8_needWord 18 = .ok (.dup, 1) := by decide +kernel
theorem dX8_needWord_19 : decode cX8_needWord 19 = .ok (.invokespecial 200, 3) := by decide +kernel
theorem dX8_needWord_22 : decode cX8_needWord 22 = .ok (.athrow, 1) := by decide +kernel
