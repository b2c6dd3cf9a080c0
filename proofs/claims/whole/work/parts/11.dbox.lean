theorem dX0_init_0 : decode cX0_init 0 = .ok (.aload_n 0, 1) := by decide +kernel
theorem dX0_init_1 : decode cX0_init 1 = .ok (.invokespecial 1, 3) := by decide +kernel
theorem dX0_init_4 : decode cX0_init 4 = .ok (.aload_n 0, 1) := by decide +kernel
theorem dX0_init_5 : decode cX0_init 5 = .ok (.lconst 0, 1) := by decide +kernel
theorem dX0_init_6 : decode cX0_init 6 = .ok (.putfield 7, 3) := by decide +kernel
theorem dX0_init_9 : decode cX0_init 9 = .ok (.aload_n 0, 1) := by decide +kernel
theorem dX0_init_10 : decode cX0_init 10 = .ok (.lconst 0, 1) := by decide +kernel
theorem dX0_init_11 : decode cX0_init 11 = .ok (.putfield 13, 3) := by decide +kernel
theorem dX0_init_14 : decode cX0_init 14 = .ok (.aload_n 0, 1) := by decide +kernel
theorem dX0_init_15 : decode cX0_init 15 = .ok (.iconst 0, 1) := by decide +kernel
theorem dX0_init_16 : decode cX0_init 16 = .ok (.putfield 16, 3) := by decide +kernel
theorem dX0_init_19 : decode cX0_init 19 = .ok (.return_, 1) := by decide +kernel
theorem dX0_keep_0 : decode cX0_keep 0 = .ok (.aload_n 0, 1) := by decide +kernel
theorem dX0_keep_1 : decode cX0_keep 1 = .ok (.lload_n 1, 1) := by decide +kernel
theorem dX0_keep_2 : decode cX0_keep 2 = .ok (.putfield 7, 3) := by decide +kernel
theorem dX0_keep_5 : decode cX0_keep 5 = .ok (.aload_n 0, 1) := by decide +kernel
theorem dX0_keep_6 : decode cX0_keep 6 = .ok (.lload_n 3, 1) := by decide +kernel
theorem dX0_keep_7 : decode cX0_keep 7 = .ok (.putfield 13, 3) := by decide +kernel
theorem dX0_keep_10 : decode cX0_keep 10 = .ok (.aload_n 0, 1) := by decide +kernel
theorem dX0_keep_11 : decode cX0_keep 11 = .ok (.lload_n 1, 1) := by decide +kernel
theorem dX0_keep_12 : decode cX0_keep 12 = .ok (.ldc2_w 20, 3) := by decide +kernel
theorem dX0_keep_15 : decode cX0_keep 15 = .ok (.lcmp, 1) := by decide +kernel
theorem dX0_keep_16 : decode cX0_keep 16 = .ok (.ifCond .lt 11, 3) := by decide +kernel
theorem dX0_keep_19 : decode cX0_keep 19 = .ok (.lload_n 3, 1) := by decide +kernel
theorem dX0_keep_20 : decode cX0_keep 20 = .ok (.ldc2_w 22, 3) := by decide +kernel
theorem dX0_keep_23 : decode cX0_keep 23 = .ok (.lcmp, 1) := by decide +kernel
theorem dX0_keep_24 : decode cX0_keep 24 = .ok (.ifCond .le 7, 3) := by decide +kernel
theorem dX0_keep_27 : decode cX0_keep 27 = .ok (.iconst 1, 1) := by decide +kernel
theorem dX0_keep_28 : decode cX0_keep 28 = .ok (.goto 4, 3) := by decide +kernel
theorem dX0_keep_31 : decode cX0_keep 31 = .ok (.iconst 0, 1) := by decide +kernel
theorem dX0_keep_32 : decode cX0_keep 32 = .ok (.putfield 16, 3) := by decide +kernel
theorem dX0_keep_35 : decode cX0_keep 35 = .ok (.return_, 1) := by decide +kernel
theorem dX0_shut_0 : decode cX0_shut 0 = .ok (.aload_n 0, 1) := by decide +kernel
theorem dX0_shut_1 : decode cX0_shut 1 = .ok (.lconst 0, 1) := by decide +kernel
theorem dX0_shut_2 : decode cX0_shut 2 = .ok (.putfield 7, 3) := by decide +kernel
theorem dX0_shut_5 : decode cX0_shut 5 = .ok (.aload_n 0, 1) := by decide +kernel
theorem dX0_shut_6 : decode cX0_shut 6 = .ok (.lconst 0, 1) := by decide +kernel
theorem dX0_shut_7 : decode cX0_shut 7 = .ok (.putfield 13, 3) := by decide +kernel
theorem dX0_shut_10 : decode cX0_shut 10 = .ok (.aload_n 0, 1) := by decide +kernel
theorem dX0_shut_11 : decode cX0_shut 11 = .ok (.iconst 1, 1) := by decide +kernel
theorem dX0_shut_12 : decode cX0_shut 12 = .ok (.putfield 16, 3) := by decide +kernel
theorem dX0_shut_15 : decode cX0_shut 15 = .ok (.return_, 1) := by decide +kernel
theorem dX0_copy_0 : decode cX0_copy 0 = .ok (.aload_n 0, 1) := by decide +kernel
theorem dX0_copy_1 : decode cX0_copy 1 = .ok (.aload_n 1, 1) := by decide +kernel
theorem dX0_copy_2 : decode cX0_copy 2 = .ok (.getfield 7, 3) := by decide +kernel
theorem dX0_copy_5 : decode cX0_copy 5 = .ok (.putfield 7, 3) := by decide +kernel
theorem dX0_copy_8 : decode cX0_copy 8 = .ok (.aload_n 0, 1) := by decide +kernel
theorem dX0_copy_9 : decode cX0_copy 9 = .ok (.aload_n 1, 1) := by decide +kernel
theorem dX0_copy_10 : decode cX0_copy 10 = .ok (.getfield 13, 3) := by decide +kernel
theorem dX0_copy_13 : decode cX0_copy 13 = .ok (.putfield 13, 3) := by decide +kernel
theorem dX0_copy_16 : decode cX0_copy 16 = .ok (.aload_n 0, 1) := by decide +kernel
theorem dX0_copy_17 : decode cX0_copy 17 = .ok (.aload_n 1, 1) := by decide +kernel
theorem dX0_copy_18 : decode cX0_copy 18 = .ok (.getfield 16, 3) := by decide +kernel
theorem dX0_copy_21 : decode cX0_copy 21 = .ok (.putfield 16, 3) := by decide +kernel
theorem dX0_copy_24 : decode cX0_copy 24 = .ok (.return_, 1) := by decide +kernel
theorem dX0_number_0 : decode cX0_number 0 = .ok (.iload_n 1, 1) := by decide +kernel
theorem dX0_number_1 : decode cX0_number 1 = .ok (.ifCond .ne 10, 3) := by decide +kernel
theorem dX0_number_4 : decode cX0_number 4 = .ok (.aload_n 0, 1) := by decide +kernel
theorem dX0_number_5 : decode cX0_number 5 = .ok (.getfield 7, 3) := by decide +kernel
theorem dX0_number_8 : decode cX0_number 8 = .ok (.goto 7, 3) := by decide +kernel
theorem dX0_number_11 : decode cX0_number 11 = .ok (.aload_n 0, 1) := by decide +kernel
theorem dX0_number_12 : decode cX0_number 12 = .ok (.getfield 13, 3) := by decide +kernel
theorem dX0_number_15 : decode cX0_number 15 = .ok (.lreturn, 1) := by decide +kernel
theorem dX0_fraction_0 : decode cX0_fraction 0 = .ok (.lload_n 3, 1) := by decide +kernel
theorem dX0_fraction_1 : decode cX0_fraction 1 = .ok (.lconst 0, 1) := by decide +kernel
theorem dX0_fraction_2 : decode cX0_fraction 2 = .ok (.lcmp, 1) := by decide +kernel
theorem dX0_fraction_3 : decode cX0_fraction 3 = .ok (.ifCond .gt 8, 3) := by decide +kernel
theorem dX0_fraction_6 : decode cX0_fraction 6 = .ok (.aload_n 0, 1) := by decide +kernel
theorem dX0_fraction_7 : decode cX0_fraction 7 = .ok (.invokevirtual 24, 3) := by decide +kernel
theorem dX0_fraction_10 : decode cX0_fraction 10 = .ok (.return_, 1) := by decide +kernel
theorem dX0_fraction_11 : decode cX0_fraction 11 = .ok (.aload_n 0, 1) := by decide +kernel
theorem dX0_fraction_12 : decode cX0_fraction 12 = .ok (.ldc2_w 27, 3) := by decide +kernel
theorem dX0_fraction_15 : decode cX0_fraction 15 = .ok (.lload_n 1, 1) := by decide +kernel
theorem dX0_fraction_16 : decode cX0_fraction 16 = .ok (.lmul, 1) := by decide +kernel
theorem dX0_fraction_17 : decode cX0_fraction 17 = .ok (.lload_n 3, 1) := by decide +kernel
theorem dX0_fraction_18 : decode cX0_fraction 18 = .ok (.invokestatic 29, 3) := by decide +kernel
theorem dX0_fraction_21 : decode cX0_fraction 21 = .ok (.ldc2_w 35, 3) := by decide +kernel
theorem dX0_fraction_24 : decode cX0_fraction 24 = .ok (.lload_n 1, 1) := by decide +kernel
theorem dX0_fraction_25 : decode cX0_fraction 25 = .ok (.lmul, 1) := by decide +kernel
theorem dX0_fraction_26 : decode cX0_fraction 26 = .ok (.lload_n 3, 1) := by decide +kernel
theorem dX0_fraction_27 : decode cX0_fraction 27 = .ok (.invokestatic 29, 3) := by decide +kernel
theorem dX0_fraction_30 : decode cX0_fraction 30 = .ok (.lneg, 1) := by decide +kernel
theorem dX0_fraction_31 : decode cX0_fraction 31 = .ok (.invokevirtual 37, 3) := by decide +kernel
theorem dX0_fraction_34 : decode cX0_fraction 34 = .ok (.return_, 1) := by decide +kernel
theorem dX0_plus_0 : decode cX0_plus 0 = .ok (.aload_n 1, 1) := by decide +kernel
theorem dX0_plus_1 : decode cX0_plus 1 = .ok (.getfield 16, 3) := by decide +kernel
theorem dX0_plus_4 : decode cX0_plus 4 = .ok (.ifCond .ne 10, 3) := by decide +kernel
theorem dX0_plus_7 : decode cX0_plus 7 = .ok (.aload_n 2, 1) := by decide +kernel
theorem dX0_plus_8 : decode cX0_plus 8 = .ok (.getfield 16, 3) := by decide +kernel
theorem dX0_plus_11 : decode cX0_plus 11 = .ok (.ifCond .eq 8, 3) := by decide +kernel
theorem dX0_plus_14 : decode cX0_plus 14 = .ok (.aload_n 0, 1) := by decide +kernel
theorem dX0_plus_15 : decode cX0_plus 15 = .ok (.invokevirtual 24, 3) := by decide +kernel
theorem dX0_plus_18 : decode cX0_plus 18 = .ok (.return_, 1) := by decide +kernel
theorem dX0_plus_19 : decode cX0_plus 19 = .ok (.aload_n 0, 1) := by decide +kernel
theorem dX0_plus_20 : decode cX0_plus 20 = .ok (.aload_n 1, 1) := by decide +kernel
theorem dX0_plus_21 : decode cX0_plus 21 = .ok (.getfield 7, 3) := by decide +kernel
theorem dX0_plus_24 : decode cX0_plus 24 = .ok (.aload_n 2, 1) := by decide +kernel
theorem dX0_plus_25 : decode cX0_plus 25 = .ok (.getfield 7, 3) := by decide +kernel
theorem dX0_plus_28 : decode cX0_plus 28 = .ok (.ladd, 1) := by decide +kernel
theorem dX0_plus_29 : decode cX0_plus 29 = .ok (.aload_n 1, 1) := by decide +kernel
theorem dX0_plus_30 : decode cX0_plus 30 = .ok (.getfield 13, 3) := by decide +kernel
theorem dX0_plus_33 : decode cX0_plus 33 = .ok (.aload_n 2, 1) := by decide +kernel
theorem dX0_plus_34 : decode cX0_plus 34 = .ok (.getfield 13, 3) := by decide +kernel
theorem dX0_plus_37 : decode cX0_plus 37 = .ok (.ladd, 1) := by decide +kernel
theorem dX0_plus_38 : decode cX0_plus 38 = .ok (.invokevirtual 37, 3) := by decide +kernel
theorem dX0_plus_41 : decode cX0_plus 41 = .ok (.return_, 1) := by decide +kernel
theorem dX0_minus_0 : decode cX0_minus 0 = .ok (.aload_n 1, 1) := by decide +kernel
theorem dX0_minus_1 : decode cX0_minus 1 = .ok (.getfield 16, 3) := by decide +kernel
theorem dX0_minus_4 : decode cX0_minus 4 = .ok (.ifCond .ne 10, 3) := by decide +kernel
theorem dX0_minus_7 : decode cX0_minus 7 = .ok (.aload_n 2, 1) := by decide +kernel
theorem dX0_minus_8 : decode cX0_minus 8 = .ok (.getfield 16, 3) := by decide +kernel
theorem dX0_minus_11 : decode cX0_minus 11 = .ok (.ifCond .eq 8, 3) := by decide +kernel
theorem dX0_minus_14 : decode cX0_minus 14 = .ok (.aload_n 0, 1) := by decide +kernel
theorem dX0_minus_15 : decode cX0_minus 15 = .ok (.invokevirtual 24, 3) := by decide +kernel
theorem dX0_minus_18 : decode cX0_minus 18 = .ok (.return_, 1) := by decide +kernel
theorem dX0_minus_19 : decode cX0_minus 19 = .ok (.aload_n 0, 1) := by decide +kernel
theorem dX0_minus_20 : decode cX0_minus 20 = .ok (.aload_n 1, 1) := by decide +kernel
theorem dX0_minus_21 : decode cX0_minus 21 = .ok (.getfield 7, 3) := by decide +kernel
theorem dX0_minus_24 : decode cX0_minus 24 = .ok (.aload_n 2, 1) := by decide +kernel
theorem dX0_minus_25 : decode cX0_minus 25 = .ok (.getfield 13, 3) := by decide +kernel
theorem dX0_minus_28 : decode cX0_minus 28 = .ok (.lsub, 1) := by decide +kernel
theorem dX0_minus_29 : decode cX0_minus 29 = .ok (.aload_n 1, 1) := by decide +kernel
theorem dX0_minus_30 : decode cX0_minus 30 = .ok (.getfield 13, 3) := by decide +kernel
theorem dX0_minus_33 : decode cX0_minus 33 = .ok (.aload_n 2, 1) := by decide +kernel
theorem dX0_minus_34 : decode cX0_minus 34 = .ok (.getfield 7, 3) := by decide +kernel
theorem dX0_minus_37 : decode cX0_minus 37 = .ok (.lsub, 1) := by decide +kernel
theorem dX0_minus_38 : decode cX0_minus 38 = .ok (.invokevirtual 37, 3) := by decide +kernel
theorem dX0_minus_41 : decode cX0_minus 41 = .ok (.return_, 1) := by decide +kernel
theorem dX0_negative_0 : decode cX0_negative 0 = .ok (.aload_n 1, 1) := by decide +kernel
theorem dX0_negative_1 : decode cX0_negative 1 = .ok (.getfield 16, 3) := by decide +kernel
theorem dX0_negative_4 : decode cX0_negative 4 = .ok (.ifCond .eq 8, 3) := by decide +kernel
theorem dX0_negative_7 : decode cX0_negative 7 = .ok (.aload_n 0, 1) := by decide +kernel
theorem dX0_negative_8 : decode cX0_negative 8 = .ok (.invokevirtual 24, 3) := by decide +kernel
theorem dX0_negative_11 : decode cX0_negative 11 = .ok (.return_, 1) := by decide +kernel
theorem dX0_negative_12 : decode cX0_negative 12 = .ok (.aload_n 0, 1) := by decide +kernel
theorem dX0_negative_13 : decode cX0_negative 13 = .ok (.aload_n 1, 1) := by decide +kernel
theorem dX0_negative_14 : decode cX0_negative 14 = .ok (.getfield 13, 3) := by decide +kernel
theorem dX0_negative_17 : decode cX0_negative 17 = .ok (.lneg, 1) := by decide +kernel
theorem dX0_negative_18 : decode cX0_negative 18 = .ok (.aload_n 1, 1) := by decide +kernel
theorem dX0_negative_19 : decode cX0_negative 19 = .ok (.getfield 7, 3) := by decide +kernel
theorem dX0_negative_22 : decode cX0_negative 22 = .ok (.lneg, 1) := by decide +kernel
theorem dX0_negative_23 : decode cX0_negative 23 = .ok (.invokevirtual 37, 3) := by decide +kernel
theorem dX0_negative_26 : decode cX0_negative 26 = .ok (.return_, 1) := by decide +kernel
theorem dX0_addProduct_0 : decode cX0_addProduct 0 = .ok (.aload_n 0, 1) := by decide +kernel
theorem dX0_addProduct_1 : decode cX0_addProduct 1 = .ok (.getfield 16, 3) := by decide +kernel
theorem dX0_addProduct_4 : decode cX0_addProduct 4 = .ok (.ifCond .ne 17, 3) := by decide +kernel
theorem dX0_addProduct_7 : decode cX0_addProduct 7 = .ok (.aload_n 2, 1) := by decide +kernel
theorem dX0_addProduct_8 : decode cX0_addProduct 8 = .ok (.getfield 16, 3) := by decide +kernel
theorem dX0_addProduct_11 : decode cX0_addProduct 11 = .ok (.ifCond .ne 10, 3) := by decide +kernel
theorem dX0_addProduct_14 : decode cX0_addProduct 14 = .ok (.aload_n 3, 1) := by decide +kernel
theorem dX0_addProduct_15 : decode cX0_addProduct 15 = .ok (.getfield 16, 3) := by decide +kernel
theorem dX0_addProduct_18 : decode cX0_addProduct 18 = .ok (.ifCond .eq 8, 3) := by decide +kernel
theorem dX0_addProduct_21 : decode cX0_addProduct 21 = .ok (.aload_n 0, 1) := by decide +kernel
theorem dX0_addProduct_22 : decode cX0_addProduct 22 = .ok (.invokevirtual 24, 3) := by decide +kernel
theorem dX0_addProduct_25 : decode cX0_addProduct 25 = .ok (.return_, 1) := by decide +kernel
theorem dX0_addProduct_26 : decode cX0_addProduct 26 = .ok (.aload_n 2, 1) := by decide +kernel
theorem dX0_addProduct_27 : decode cX0_addProduct 27 = .ok (.getfield 7, 3) := by decide +kernel
theorem dX0_addProduct_30 : decode cX0_addProduct 30 = .ok (.aload_n 3, 1) := by decide +kernel
theorem dX0_addProduct_31 : decode cX0_addProduct 31 = .ok (.getfield 7, 3) := by decide +kernel
theorem dX0_addProduct_34 : decode cX0_addProduct 34 = .ok (.lmul, 1) := by decide +kernel
theorem dX0_addProduct_35 : decode cX0_addProduct 35 = .ok (.lstore 4, 2) := by decide +kernel
theorem dX0_addProduct_37 : decode cX0_addProduct 37 = .ok (.aload_n 2, 1) := by decide +kernel
theorem dX0_addProduct_38 : decode cX0_addProduct 38 = .ok (.getfield 7, 3) := by decide +kernel
theorem dX0_addProduct_41 : decode cX0_addProduct 41 = .ok (.aload_n 3, 1) := by decide +kernel
theorem dX0_addProduct_42 : decode cX0_addProduct 42 = .ok (.getfield 13, 3) := by decide +kernel
theorem dX0_addProduct_45 : decode cX0_addProduct 45 = .ok (.lmul, 1) := by decide +kernel
theorem dX0_addProduct_46 : decode cX0_addProduct 46 = .ok (.lstore 6, 2) := by decide +kernel
theorem dX0_addProduct_48 : decode cX0_addProduct 48 = .ok (.aload_n 2, 1) := by decide +kernel
theorem dX0_addProduct_49 : decode cX0_addProduct 49 = .ok (.getfield 13, 3) := by decide +kernel
theorem dX0_addProduct_52 : decode cX0_addProduct 52 = .ok (.aload_n 3, 1) := by decide +kernel
theorem dX0_addProduct_53 : decode cX0_addProduct 53 = .ok (.getfield 7, 3) := by decide +kernel
theorem dX0_addProduct_56 : decode cX0_addProduct 56 = .ok (.lmul, 1) := by decide +kernel
theorem dX0_addProduct_57 : decode cX0_addProduct 57 = .ok (.lstore 8, 2) := by decide +kernel
theorem dX0_addProduct_59 : decode cX0_addProduct 59 = .ok (.aload_n 2, 1) := by decide +kernel
theorem dX0_addProduct_60 : decode cX0_addProduct 60 = .ok (.getfield 13, 3) := by decide +kernel
theorem dX0_addProduct_63 : decode cX0_addProduct 63 = .ok (.aload_n 3, 1) := by decide +kernel
theorem dX0_addProduct_64 : decode cX0_addProduct 64 = .ok (.getfield 13, 3) := by decide +kernel
theorem dX0_addProduct_67 : decode cX0_addProduct 67 = .ok (.lmul, 1) := by decide +kernel
theorem dX0_addProduct_68 : decode cX0_addProduct 68 = .ok (.lstore 10, 2) := by decide +kernel
theorem dX0_addProduct_70 : decode cX0_addProduct 70 = .ok (.lload 4, 2) := by decide +kernel
theorem dX0_addProduct_72 : decode cX0_addProduct 72 = .ok (.lload 6, 2) := by decide +kernel
theorem dX0_addProduct_74 : decode cX0_addProduct 74 = .ok (.invokestatic 41, 3) := by decide +kernel
theorem dX0_addProduct_77 : decode cX0_addProduct 77 = .ok (.lload 8, 2) := by decide +kernel
theorem dX0_addProduct_79 : decode cX0_addProduct 79 = .ok (.lload 10, 2) := by decide +kernel
theorem dX0_addProduct_81 : decode cX0_addProduct 81 = .ok (.invokestatic 41, 3) := by decide +kernel
theorem dX0_addProduct_84 : decode cX0_addProduct 84 = .ok (.invokestatic 41, 3) := by decide +kernel
theorem dX0_addProduct_87 : decode cX0_addProduct 87 = .ok (.bipush 16, 2) := by decide +kernel
theorem dX0_addProduct_89 : decode cX0_addProduct 89 = .ok (.lshr, 1) := by decide +kernel
theorem dX0_addProduct_90 : decode cX0_addProduct 90 = .ok (.lstore 12, 2) := by decide +kernel
theorem dX0_addProduct_92 : decode cX0_addProduct 92 = .ok (.lload 4, 2) := by decide +kernel
theorem dX0_addProduct_94 : decode cX0_addProduct 94 = .ok (.lload 6, 2) := by decide +kernel
theorem dX0_addProduct_96 : decode cX0_addProduct 96 = .ok (.invokestatic 44, 3) := by decide +kernel
theorem dX0_addProduct_99 : decode cX0_addProduct 99 = .ok (.lload 8, 2) := by decide +kernel
theorem dX0_addProduct_101 : decode cX0_addProduct 101 = .ok (.lload 10, 2) := by decide +kernel
theorem dX0_addProduct_103 : decode cX0_addProduct 103 = .ok (.invokestatic 44, 3) := by decide +kernel
theorem dX0_addProduct_106 : decode cX0_addProduct 106 = .ok (.invokestatic 44, 3) := by decide +kernel
theorem dX0_addProduct_109 : decode cX0_addProduct 109 = .ok (.lneg, 1) := by decide +kernel
theorem dX0_addProduct_110 : decode cX0_addProduct 110 = .ok (.bipush 16, 2) := by decide +kernel
theorem dX0_addProduct_112 : decode cX0_addProduct 112 = .ok (.lshr, 1) := by decide +kernel
theorem dX0_addProduct_113 : decode cX0_addProduct 113 = .ok (.lneg, 1) := by decide +kernel
theorem dX0_addProduct_114 : decode cX0_addProduct 114 = .ok (.lstore 14, 2) := by decide +kernel
theorem dX0_addProduct_116 : decode cX0_addProduct 116 = .ok (.lload 12, 2) := by decide +kernel
theorem dX0_addProduct_118 : decode cX0_addProduct 118 = .ok (.ldc2_w 20, 3) := by decide +kernel
theorem dX0_addProduct_121 : decode cX0_addProduct 121 = .ok (.lcmp, 1) := by decide +kernel
theorem dX0_addProduct_122 : decode cX0_addProduct 122 = .ok (.ifCond .lt 12, 3) := by decide +kernel
theorem dX0_addProduct_125 : decode cX0_addProduct 125 = .ok (.lload 14, 2) := by decide +kernel
theorem dX0_addProduct_127 : decode cX0_addProduct 127 = .ok (.ldc2_w 22, 3) := by decide +kernel
theorem dX0_addProduct_130 : decode cX0_addProduct 130 = .ok (.lcmp, 1) := by decide +kernel
theorem dX0_addProduct_131 : decode cX0_addProduct 131 = .ok (.ifCond .le 10, 3) := by decide +kernel
theorem dX0_addProduct_134 : decode cX0_addProduct 134 = .ok (.aload_n 0, 1) := by decide +kernel
theorem dX0_addProduct_135 : decode cX0_addProduct 135 = .ok (.invokevirtual 24, 3) := by decide +kernel
theorem dX0_addProduct_138 : decode cX0_addProduct 138 = .ok (.goto 46, 3) := by decide +kernel
theorem dX0_addProduct_141 : decode cX0_addProduct 141 = .ok (.iload_n 1, 1) := by decide +kernel
theorem dX0_addProduct_142 : decode cX0_addProduct 142 = .ok (.ifCond .le 24, 3) := by decide +kernel
theorem dX0_addProduct_145 : decode cX0_addProduct 145 = .ok (.aload_n 0, 1) := by decide +kernel
theorem dX0_addProduct_146 : decode cX0_addProduct 146 = .ok (.aload_n 0, 1) := by decide +kernel
theorem dX0_addProduct_147 : decode cX0_addProduct 147 = .ok (.getfield 7, 3) := by decide +kernel
theorem dX0_addProduct_150 : decode cX0_addProduct 150 = .ok (.lload 12, 2) := by decide +kernel
theorem dX0_addProduct_152 : decode cX0_addProduct 152 = .ok (.ladd, 1) := by decide +kernel
theorem dX0_addProduct_153 : decode cX0_addProduct 153 = .ok (.aload_n 0, 1) := by decide +kernel
theorem dX0_addProduct_154 : decode cX0_addProduct 154 = .ok (.getfield 13, 3) := by decide +kernel
theorem dX0_addProduct_157 : decode cX0_addProduct 157 = .ok (.lload 14, 2) := by decide +kernel
theorem dX0_addProduct_159 : decode cX0_addProduct 159 = .ok (.ladd, 1) := by decide +kernel
theorem dX0_addProduct_160 : decode cX0_addProduct 160 = .ok (.invokevirtual 37, 3) := by decide +kernel
theorem dX0_addProduct_163 : decode cX0_addProduct 163 = .ok (.goto 21, 3) := by decide +kernel
theorem dX0_addProduct_166 : decode cX0_addProduct 166 = .ok (.aload_n 0, 1) := by decide +kernel
theorem dX0_addProduct_167 : decode cX0_addProduct 167 = .ok (.aload_n 0, 1) := by decide +kernel
theorem dX0_addProduct_168 : decode cX0_addProduct 168 = .ok (.getfield 7, 3) := by decide +kernel
theorem dX0_addProduct_171 : decode cX0_addProduct 171 = .ok (.lload 14, 2) := by decide +kernel
theorem dX0_addProduct_173 : decode cX0_addProduct 173 = .ok (.lsub, 1) := by decide +kernel
theorem dX0_addProduct_174 : decode cX0_addProduct 174 = .ok (.aload_n 0, 1) := by decide +kernel
theorem dX0_addProduct_175 : decode cX0_addProduct 175 = .ok (.getfield 13, 3) := by decide +kernel
theorem dX0_addProduct_178 : decode cX0_addProduct 178 = .ok (.lload 12, 2) := by decide +kernel
theorem dX0_addProduct_180 : decode cX0_addProduct 180 = .ok (.lsub, 1) := by decide +kernel
theorem dX0_addProduct_181 : decode cX0_addProduct 181 = .ok (.invokevirtual 37, 3) := by decide +kernel
theorem dX0_addProduct_184 : decode cX0_addProduct 184 = .ok (.return_, 1) := by decide +kernel
theorem dX0_addSquare_0 : decode cX0_addSquare 0 = .ok (.aload_n 0, 1) := by decide +kernel
theorem dX0_addSquare_1 : decode cX0_addSquare 1 = .ok (.getfield 16, 3) := by decide +kernel
theorem dX0_addSquare_4 : decode cX0_addSquare 4 = .ok (.ifCond .ne 10, 3) := by decide +kernel
theorem dX0_addSquare_7 : decode cX0_addSquare 7 = .ok (.aload_n 1, 1) := by decide +kernel
theorem dX0_addSquare_8 : decode cX0_addSquare 8 = .ok (.getfield 16, 3) := by decide +kernel
theorem dX0_addSquare_11 : decode cX0_addSquare 11 = .ok (.ifCond .eq 8, 3) := by decide +kernel
theorem dX0_addSquare_14 : decode cX0_addSquare 14 = .ok (.aload_n 0, 1) := by decide +kernel
theorem dX0_addSquare_15 : decode cX0_addSquare 15 = .ok (.invokevirtual 24, 3) := by decide +kernel
theorem dX0_addSquare_18 : decode cX0_addSquare 18 = .ok (.return_, 1) := by decide +kernel
theorem dX0_addSquare_19 : decode cX0_addSquare 19 = .ok (.aload_n 1, 1) := by decide +kernel
theorem dX0_addSquare_20 : decode cX0_addSquare 20 = .ok (.getfield 7, 3) := by decide +kernel
theorem dX0_addSquare_23 : decode cX0_addSquare 23 = .ok (.aload_n 1, 1) := by decide +kernel
theorem dX0_addSquare_24 : decode cX0_addSquare 24 = .ok (.getfield 7, 3) := by decide +kernel
theorem dX0_addSquare_27 : decode cX0_addSquare 27 = .ok (.lmul, 1) := by decide +kernel
theorem dX0_addSquare_28 : decode cX0_addSquare 28 = .ok (.lstore_n 2, 1) := by decide +kernel
theorem dX0_addSquare_29 : decode cX0_addSquare 29 = .ok (.aload_n 1, 1) := by decide +kernel
theorem dX0_addSquare_30 : decode cX0_addSquare 30 = .ok (.getfield 13, 3) := by decide +kernel
theorem dX0_addSquare_33 : decode cX0_addSquare 33 = .ok (.aload_n 1, 1) := by decide +kernel
theorem dX0_addSquare_34 : decode cX0_addSquare 34 = .ok (.getfield 13, 3) := by decide +kernel
theorem dX0_addSquare_37 : decode cX0_addSquare 37 = .ok (.lmul, 1) := by decide +kernel
theorem dX0_addSquare_38 : decode cX0_addSquare 38 = .ok (.lstore 4, 2) := by decide +kernel
theorem dX0_addSquare_40 : decode cX0_addSquare 40 = .ok (.aload_n 1, 1) := by decide +kernel
theorem dX0_addSquare_41 : decode cX0_addSquare 41 = .ok (.getfield 7, 3) := by decide +kernel
theorem dX0_addSquare_44 : decode cX0_addSquare 44 = .ok (.lconst 0, 1) := by decide +kernel
theorem dX0_addSquare_45 : decode cX0_addSquare 45 = .ok (.lcmp, 1) := by decide +kernel
theorem dX0_addSquare_46 : decode cX0_addSquare 46 = .ok (.ifCond .gt 16, 3) := by decide +kernel
theorem dX0_addSquare_49 : decode cX0_addSquare 49 = .ok (.aload_n 1, 1) := by decide +kernel
theorem dX0_addSquare_50 : decode cX0_addSquare 50 = .ok (.getfield 13, 3) := by decide +kernel
theorem dX0_addSquare_53 : decode cX0_addSquare 53 = .ok (.lconst 0, 1) := by decide +kernel
theorem dX0_addSquare_54 : decode cX0_addSquare 54 = .ok (.lcmp, 1) := by decide +kernel
theorem dX0_addSquare_55 : decode cX0_addSquare 55 = .ok (.ifCond .lt 7, 3) := by decide +kernel
theorem dX0_addSquare_58 : decode cX0_addSquare 58 = .ok (.lconst 0, 1) := by decide +kernel
theorem dX0_addSquare_59 : decode cX0_addSquare 59 = .ok (.goto 12, 3) := by decide +kernel
theorem dX0_addSquare_62 : decode cX0_addSquare 62 = .ok (.lload_n 2, 1) := by decide +kernel
theorem dX0_addSquare_63 : decode cX0_addSquare 63 = .ok (.lload 4, 2) := by decide +kernel
theorem dX0_addSquare_65 : decode cX0_addSquare 65 = .ok (.invokestatic 41, 3) := by decide +kernel
theorem dX0_addSquare_68 : decode cX0_addSquare 68 = .ok (.bipush 16, 2) := by decide +kernel
theorem dX0_addSquare_70 : decode cX0_addSquare 70 = .ok (.lshr, 1) := by decide +kernel
theorem dX0_addSquare_71 : decode cX0_addSquare 71 = .ok (.lstore 6, 2) := by decide +kernel
theorem dX0_addSquare_73 : decode cX0_addSquare 73 = .ok (.lload_n 2, 1) := by decide +kernel
theorem dX0_addSquare_74 : decode cX0_addSquare 74 = .ok (.lload 4, 2) := by decide +kernel
theorem dX0_addSquare_76 : decode cX0_addSquare 76 = .ok (.invokestatic 44, 3) := by decide +kernel
theorem dX0_addSquare_79 : decode cX0_addSquare 79 = .ok (.lneg, 1) := by decide +kernel
theorem dX0_addSquare_80 : decode cX0_addSquare 80 = .ok (.bipush 16, 2) := by decide +kernel
theorem dX0_addSquare_82 : decode cX0_addSquare 82 = .ok (.lshr, 1) := by decide +kernel
theorem dX0_addSquare_83 : decode cX0_addSquare 83 = .ok (.lneg, 1) := by decide +kernel
theorem dX0_addSquare_84 : decode cX0_addSquare 84 = .ok (.lstore 8, 2) := by decide +kernel
theorem dX0_addSquare_86 : decode cX0_addSquare 86 = .ok (.lload 8, 2) := by decide +kernel
theorem dX0_addSquare_88 : decode cX0_addSquare 88 = .ok (.ldc2_w 22, 3) := by decide +kernel
theorem dX0_addSquare_91 : decode cX0_addSquare 91 = .ok (.lcmp, 1) := by decide +kernel
theorem dX0_addSquare_92 : decode cX0_addSquare 92 = .ok (.ifCond .le 10, 3) := by decide +kernel
theorem dX0_addSquare_95 : decode cX0_addSquare 95 = .ok (.aload_n 0, 1) := by decide +kernel
theorem dX0_addSquare_96 : decode cX0_addSquare 96 = .ok (.invokevirtual 24, 3) := by decide +kernel
theorem dX0_addSquare_99 : decode cX0_addSquare 99 = .ok (.goto 21, 3) := by decide +kernel
theorem dX0_addSquare_102 : decode cX0_addSquare 102 = .ok (.aload_n 0, 1) := by decide +kernel
theorem dX0_addSquare_103 : decode cX0_addSquare 103 = .ok (.aload_n 0, 1) := by decide +kernel
theorem dX0_addSquare_104 : decode cX0_addSquare 104 = .ok (.getfield 7, 3) := by decide +kernel
theorem dX0_addSquare_107 : decode cX0_addSquare 107 = .ok (.lload 6, 2) := by decide +kernel
theorem dX0_addSquare_109 : decode cX0_addSquare 109 = .ok (.ladd, 1) := by decide +kernel
theorem dX0_addSquare_110 : decode cX0_addSquare 110 = .ok (.aload_n 0, 1) := by decide +kernel
theorem dX0_addSquare_111 : decode cX0_addSquare 111 = .ok (.getfield 13, 3) := by decide +kernel
theorem dX0_addSquare_114 : decode cX0_addSquare 114 = .ok (.lload 8, 2) := by decide +kernel
theorem dX0_addSquare_116 : decode cX0_addSquare 116 = .ok (.ladd, 1) := by decide +kernel
theorem dX0_addSquare_117 : decode cX0_addSquare 117 = .ok (.invokevirtual 37, 3) := by decide +kernel
theorem dX0_addSquare_120 : decode cX0_addSquare 120 = .ok (.return_, 1) := by decide +kernel
theorem dX0_addWhole_0 : decode cX0_addWhole 0 = .ok (.aload_n 0, 1) := by decide +kernel
theorem dX0_addWhole_1 : decode cX0_addWhole 1 = .ok (.getfield 16, 3) := by decide +kernel
theorem dX0_addWhole_4 : decode cX0_addWhole 4 = .ok (.ifCond .ne 10, 3) := by decide +kernel
theorem dX0_addWhole_7 : decode cX0_addWhole 7 = .ok (.aload_n 3, 1) := by decide +kernel
theorem dX0_addWhole_8 : decode cX0_addWhole 8 = .ok (.getfield 16, 3) := by decide +kernel
theorem dX0_addWhole_11 : decode cX0_addWhole 11 = .ok (.ifCond .eq 8, 3) := by decide +kernel
theorem dX0_addWhole_14 : decode cX0_addWhole 14 = .ok (.aload_n 0, 1) := by decide +kernel
theorem dX0_addWhole_15 : decode cX0_addWhole 15 = .ok (.invokevirtual 24, 3) := by decide +kernel
theorem dX0_addWhole_18 : decode cX0_addWhole 18 = .ok (.return_, 1) := by decide +kernel
theorem dX0_addWhole_19 : decode cX0_addWhole 19 = .ok (.lload_n 1, 1) := by decide +kernel
theorem dX0_addWhole_20 : decode cX0_addWhole 20 = .ok (.lconst 0, 1) := by decide +kernel
theorem dX0_addWhole_21 : decode cX0_addWhole 21 = .ok (.lcmp, 1) := by decide +kernel
theorem dX0_addWhole_22 : decode cX0_addWhole 22 = .ok (.ifCond .lt 12, 3) := by decide +kernel
theorem dX0_addWhole_25 : decode cX0_addWhole 25 = .ok (.lload_n 1, 1) := by decide +kernel
theorem dX0_addWhole_26 : decode cX0_addWhole 26 = .ok (.aload_n 3, 1) := by decide +kernel
theorem dX0_addWhole_27 : decode cX0_addWhole 27 = .ok (.getfield 7, 3) := by decide +kernel
theorem dX0_addWhole_30 : decode cX0_addWhole 30 = .ok (.lmul, 1) := by decide +kernel
theorem dX0_addWhole_31 : decode cX0_addWhole 31 = .ok (.goto 9, 3) := by decide +kernel
theorem dX0_addWhole_34 : decode cX0_addWhole 34 = .ok (.lload_n 1, 1) := by decide +kernel
theorem dX0_addWhole_35 : decode cX0_addWhole 35 = .ok (.aload_n 3, 1) := by decide +kernel
theorem dX0_addWhole_36 : decode cX0_addWhole 36 = .ok (.getfield 13, 3) := by decide +kernel
theorem dX0_addWhole_39 : decode cX0_addWhole 39 = .ok (.lmul, 1) := by decide +kernel
theorem dX0_addWhole_40 : decode cX0_addWhole 40 = .ok (.lstore 4, 2) := by decide +kernel
theorem dX0_addWhole_42 : decode cX0_addWhole 42 = .ok (.lload_n 1, 1) := by decide +kernel
theorem dX0_addWhole_43 : decode cX0_addWhole 43 = .ok (.lconst 0, 1) := by decide +kernel
theorem dX0_addWhole_44 : decode cX0_addWhole 44 = .ok (.lcmp, 1) := by decide +kernel
theorem dX0_addWhole_45 : decode cX0_addWhole 45 = .ok (.ifCond .lt 12, 3) := by decide +kernel
theorem dX0_addWhole_48 : decode cX0_addWhole 48 = .ok (.lload_n 1, 1) := by decide +kernel
theorem dX0_addWhole_49 : decode cX0_addWhole 49 = .ok (.aload_n 3, 1) := by decide +kernel
theorem dX0_addWhole_50 : decode cX0_addWhole 50 = .ok (.getfield 13, 3) := by decide +kernel
theorem dX0_addWhole_53 : decode cX0_addWhole 53 = .ok (.lmul, 1) := by decide +kernel
theorem dX0_addWhole_54 : decode cX0_addWhole 54 = .ok (.goto 9, 3) := by decide +kernel
theorem dX0_addWhole_57 : decode cX0_addWhole 57 = .ok (.lload_n 1, 1) := by decide +kernel
theorem dX0_addWhole_58 : decode cX0_addWhole 58 = .ok (.aload_n 3, 1) := by decide +kernel
theorem dX0_addWhole_59 : decode cX0_addWhole 59 = .ok (.getfield 7, 3) := by decide +kernel
theorem dX0_addWhole_62 : decode cX0_addWhole 62 = .ok (.lmul, 1) := by decide +kernel
theorem dX0_addWhole_63 : decode cX0_addWhole 63 = .ok (.lstore 6, 2) := by decide +kernel
theorem dX0_addWhole_65 : decode cX0_addWhole 65 = .ok (.lload 4, 2) := by decide +kernel
theorem dX0_addWhole_67 : decode cX0_addWhole 67 = .ok (.ldc2_w 20, 3) := by decide +kernel
theorem dX0_addWhole_70 : decode cX0_addWhole 70 = .ok (.lcmp, 1) := by decide +kernel
theorem dX0_addWhole_71 : decode cX0_addWhole 71 = .ok (.ifCond .lt 12, 3) := by decide +kernel
theorem dX0_addWhole_74 : decode cX0_addWhole 74 = .ok (.lload 6, 2) := by decide +kernel
theorem dX0_addWhole_76 : decode cX0_addWhole 76 = .ok (.ldc2_w 22, 3) := by decide +kernel
theorem dX0_addWhole_79 : decode cX0_addWhole 79 = .ok (.lcmp, 1) := by decide +kernel
theorem dX0_addWhole_80 : decode cX0_addWhole 80 = .ok (.ifCond .le 10, 3) := by decide +kernel
theorem dX0_addWhole_83 : decode cX0_addWhole 83 = .ok (.aload_n 0, 1) := by decide +kernel
theorem dX0_addWhole_84 : decode cX0_addWhole 84 = .ok (.invokevirtual 24, 3) := by decide +kernel
theorem dX0_addWhole_87 : decode cX0_addWhole 87 = .ok (.goto 21, 3) := by decide +kernel
theorem dX0_addWhole_90 : decode cX0_addWhole 90 = .ok (.aload_n 0, 1) := by decide +kernel
theorem dX0_addWhole_91 : decode cX0_addWhole 91 = .ok (.aload_n 0, 1) := by decide +kernel
theorem dX0_addWhole_92 : decode cX0_addWhole 92 = .ok (.getfield 7, 3) := by decide +kernel
theorem dX0_addWhole_95 : decode cX0_addWhole 95 = .ok (.lload 4, 2) := by decide +kernel
theorem dX0_addWhole_97 : decode cX0_addWhole 97 = .ok (.ladd, 1) := by decide +kernel
theorem dX0_addWhole_98 : decode cX0_addWhole 98 = .ok (.aload_n 0, 1) := by decide +kernel
theorem dX0_addWhole_99 : decode cX0_addWhole 99 = .ok (.getfield 13, 3) := by decide +kernel
theorem dX0_addWhole_102 : decode cX0_addWhole 102 = .ok (.lload 6, 2) := by decide +kernel
theorem dX0_addWhole_104 : decode cX0_addWhole 104 = .ok (.ladd, 1) := by decide +kernel
theorem dX0_addWhole_105 : decode cX0_addWhole 105 = .ok (.invokevirtual 37, 3) := by decide +kernel
theorem dX0_addWhole_108 : decode cX0_addWhole 108 = .ok (.return_, 1) := by decide +kernel
theorem dX0_quotient_0 : decode cX0_quotient 0 = .ok (.aload_n 1, 1) := by decide +kernel
theorem dX0_quotient_1 : decode cX0_quotient 1 = .ok (.getfield 16, 3) := by decide +kernel
theorem dX0_quotient_4 : decode cX0_quotient 4 = .ok (.ifCond .ne 28, 3) := by decide +kernel
theorem dX0_quotient_7 : decode cX0_quotient 7 = .ok (.aload_n 2, 1) := by decide +kernel
theorem dX0_quotient_8 : decode cX0_quotient 8 = .ok (.getfield 16, 3) := by decide +kernel
theorem dX0_quotient_11 : decode cX0_quotient 11 = .ok (.ifCond .ne 21, 3) := by decide +kernel
theorem dX0_quotient_14 : decode cX0_quotient 14 = .ok (.aload_n 2, 1) := by decide +kernel
theorem dX0_quotient_15 : decode cX0_quotient 15 = .ok (.getfield 7, 3) := by decide +kernel
theorem dX0_quotient_18 : decode cX0_quotient 18 = .ok (.lconst 0, 1) := by decide +kernel
theorem dX0_quotient_19 : decode cX0_quotient 19 = .ok (.lcmp, 1) := by decide +kernel
theorem dX0_quotient_20 : decode cX0_quotient 20 = .ok (.ifCond .gt 17, 3) := by decide +kernel
theorem dX0_quotient_23 : decode cX0_quotient 23 = .ok (.aload_n 2, 1) := by decide +kernel
theorem dX0_quotient_24 : decode cX0_quotient 24 = .ok (.getfield 13, 3) := by decide +kernel
theorem dX0_quotient_27 : decode cX0_quotient 27 = .ok (.lconst 0, 1) := by decide +kernel
theorem dX0_quotient_28 : decode cX0_quotient 28 = .ok (.lcmp, 1) := by decide +kernel
theorem dX0_quotient_29 : decode cX0_quotient 29 = .ok (.ifCond .lt 8, 3) := by decide +kernel
theorem dX0_quotient_32 : decode cX0_quotient 32 = .ok (.aload_n 0, 1) := by decide +kernel
theorem dX0_quotient_33 : decode cX0_quotient 33 = .ok (.invokevirtual 24, 3) := by decide +kernel
theorem dX0_quotient_36 : decode cX0_quotient 36 = .ok (.return_, 1) := by decide +kernel
theorem dX0_quotient_37 : decode cX0_quotient 37 = .ok (.aload_n 2, 1) := by decide +kernel
theorem dX0_quotient_38 : decode cX0_quotient 38 = .ok (.getfield 13, 3) := by decide +kernel
theorem dX0_quotient_41 : decode cX0_quotient 41 = .ok (.lconst 0, 1) := by decide +kernel
theorem dX0_quotient_42 : decode cX0_quotient 42 = .ok (.lcmp, 1) := by decide +kernel
theorem dX0_quotient_43 : decode cX0_quotient 43 = .ok (.ifCond .ge 7, 3) := by decide +kernel
theorem dX0_quotient_46 : decode cX0_quotient 46 = .ok (.iconst 1, 1) := by decide +kernel
theorem dX0_quotient_47 : decode cX0_quotient 47 = .ok (.goto 4, 3) := by decide +kernel
theorem dX0_quotient_50 : decode cX0_quotient 50 = .ok (.iconst 0, 1) := by decide +kernel
theorem dX0_quotient_51 : decode cX0_quotient 51 = .ok (.istore_n 3, 1) := by decide +kernel
theorem dX0_quotient_52 : decode cX0_quotient 52 = .ok (.ldc2_w 27, 3) := by decide +kernel
theorem dX0_quotient_55 : decode cX0_quotient 55 = .ok (.iload_n 3, 1) := by decide +kernel
theorem dX0_quotient_56 : decode cX0_quotient 56 = .ok (.ifCond .eq 11, 3) := by decide +kernel
theorem dX0_quotient_59 : decode cX0_quotient 59 = .ok (.aload_n 1, 1) := by decide +kernel
theorem dX0_quotient_60 : decode cX0_quotient 60 = .ok (.getfield 13, 3) := by decide +kernel
theorem dX0_quotient_63 : decode cX0_quotient 63 = .ok (.lneg, 1) := by decide +kernel
theorem dX0_quotient_64 : decode cX0_quotient 64 = .ok (.goto 7, 3) := by decide +kernel
theorem dX0_quotient_67 : decode cX0_quotient 67 = .ok (.aload_n 1, 1) := by decide +kernel
theorem dX0_quotient_68 : decode cX0_quotient 68 = .ok (.getfield 7, 3) := by decide +kernel
theorem dX0_quotient_71 : decode cX0_quotient 71 = .ok (.lmul, 1) := by decide +kernel
theorem dX0_quotient_72 : decode cX0_quotient 72 = .ok (.lstore 4, 2) := by decide +kernel
theorem dX0_quotient_74 : decode cX0_quotient 74 = .ok (.ldc2_w 27, 3) := by decide +kernel
theorem dX0_quotient_77 : decode cX0_quotient 77 = .ok (.iload_n 3, 1) := by decide +kernel
theorem dX0_quotient_78 : decode cX0_quotient 78 = .ok (.ifCond .eq 11, 3) := by decide +kernel
theorem dX0_quotient_81 : decode cX0_quotient 81 = .ok (.aload_n 1, 1) := by decide +kernel
theorem dX0_quotient_82 : decode cX0_quotient 82 = .ok (.getfield 7, 3) := by decide +kernel
theorem dX0_quotient_85 : decode cX0_quotient 85 = .ok (.lneg, 1) := by decide +kernel
theorem dX0_quotient_86 : decode cX0_quotient 86 = .ok (.goto 7, 3) := by decide +kernel
theorem dX0_quotient_89 : decode cX0_quotient 89 = .ok (.aload_n 1, 1) := by decide +kernel
theorem dX0_quotient_90 : decode cX0_quotient 90 = .ok (.getfield 13, 3) := by decide +kernel
theorem dX0_quotient_93 : decode cX0_quotient 93 = .ok (.lmul, 1) := by decide +kernel
theorem dX0_quotient_94 : decode cX0_quotient 94 = .ok (.lstore 6, 2) := by decide +kernel
theorem dX0_quotient_96 : decode cX0_quotient 96 = .ok (.iload_n 3, 1) := by decide +kernel
theorem dX0_quotient_97 : decode cX0_quotient 97 = .ok (.ifCond .eq 11, 3) := by decide +kernel
theorem dX0_quotient_100 : decode cX0_quotient 100 = .ok (.aload_n 2, 1) := by decide +kernel
theorem dX0_quotient_101 : decode cX0_quotient 101 = .ok (.getfield 13, 3) := by decide +kernel
theorem dX0_quotient_104 : decode cX0_quotient 104 = .ok (.lneg, 1) := by decide +kernel
theorem dX0_quotient_105 : decode cX0_quotient 105 = .ok (.goto 7, 3) := by decide +kernel
theorem dX0_quotient_108 : decode cX0_quotient 108 = .ok (.aload_n 2, 1) := by decide +kernel
theorem dX0_quotient_109 : decode cX0_quotient 109 = .ok (.getfield 7, 3) := by decide +kernel
theorem dX0_quotient_112 : decode cX0_quotient 112 = .ok (.lstore 8, 2) := by decide +kernel
theorem dX0_quotient_114 : decode cX0_quotient 114 = .ok (.iload_n 3, 1) := by decide +kernel
theorem dX0_quotient_115 : decode cX0_quotient 115 = .ok (.ifCond .eq 11, 3) := by decide +kernel
theorem dX0_quotient_118 : decode cX0_quotient 118 = .ok (.aload_n 2, 1) := by decide +kernel
theorem dX0_quotient_119 : decode cX0_quotient 119 = .ok (.getfield 7, 3) := by decide +kernel
theorem dX0_quotient_122 : decode cX0_quotient 122 = .ok (.lneg, 1) := by decide +kernel
theorem dX0_quotient_123 : decode cX0_quotient 123 = .ok (.goto 7, 3) := by decide +kernel
theorem dX0_quotient_126 : decode cX0_quotient 126 = .ok (.aload_n 2, 1) := by decide +kernel
theorem dX0_quotient_127 : decode cX0_quotient 127 = .ok (.getfield 13, 3) := by decide +kernel
theorem dX0_quotient_130 : decode cX0_quotient 130 = .ok (.lstore 10, 2) := by decide +kernel
theorem dX0_quotient_132 : decode cX0_quotient 132 = .ok (.aload_n 0, 1) := by decide +kernel
theorem dX0_quotient_133 : decode cX0_quotient 133 = .ok (.lload 4, 2) := by decide +kernel
theorem dX0_quotient_135 : decode cX0_quotient 135 = .ok (.lload 4, 2) := by decide +kernel
theorem dX0_quotient_137 : decode cX0_quotient 137 = .ok (.lconst 0, 1) := by decide +kernel
theorem dX0_quotient_138 : decode cX0_quotient 138 = .ok (.lcmp, 1) := by decide +kernel
theorem dX0_quotient_139 : decode cX0_quotient 139 = .ok (.ifCond .lt 8, 3) := by decide +kernel
theorem dX0_quotient_142 : decode cX0_quotient 142 = .ok (.lload 10, 2) := by decide +kernel
theorem dX0_quotient_144 : decode cX0_quotient 144 = .ok (.goto 5, 3) := by decide +kernel
theorem dX0_quotient_147 : decode cX0_quotient 147 = .ok (.lload 8, 2) := by decide +kernel
theorem dX0_quotient_149 : decode cX0_quotient 149 = .ok (.invokestatic 29, 3) := by decide +kernel
theorem dX0_quotient_152 : decode cX0_quotient 152 = .ok (.lload 6, 2) := by decide +kernel
theorem dX0_quotient_154 : decode cX0_quotient 154 = .ok (.lneg, 1) := by decide +kernel
theorem dX0_quotient_155 : decode cX0_quotient 155 = .ok (.lload 6, 2) := by decide +kernel
theorem dX0_quotient_157 : decode cX0_quotient 157 = .ok (.lconst 0, 1) := by decide +kernel
theorem dX0_quotient_158 : decode cX0_quotient 158 = .ok (.lcmp, 1) := by decide +kernel
theorem dX0_quotient_159 : decode cX0_quotient 159 = .ok (.ifCond .lt 8, 3) := by decide +kernel
theorem dX0_quotient_162 : decode cX0_quotient 162 = .ok (.lload 8, 2) := by decide +kernel
theorem dX0_quotient_164 : decode cX0_quotient 164 = .ok (.goto 5, 3) := by decide +kernel
theorem dX0_quotient_167 : decode cX0_quotient 167 = .ok (.lload 10, 2) := by decide +kernel
theorem dX0_quotient_169 : decode cX0_quotient 169 = .ok (.invokestatic 29, 3) := by decide +kernel
theorem dX0_quotient_172 : decode cX0_quotient 172 = .ok (.lneg, 1) := by decide +kernel
theorem dX0_quotient_173 : decode cX0_quotient 173 = .ok (.invokevirtual 37, 3) := by decide +kernel
theorem dX0_quotient_176 : decode cX0_quotient 176 = .ok (.return_, 1) := by decide +kernel
theorem dX0_takeRoot_0 : decode cX0_takeRoot 0 = .ok (.aload_n 0, 1) := by decide +kernel
theorem dX0_takeRoot_1 : decode cX0_takeRoot 1 = .ok (.getfield 16, 3) := by decide +kernel
theorem dX0_takeRoot_4 : decode cX0_takeRoot 4 = .ok (.ifCond .ne 12, 3) := by decide +kernel
theorem dX0_takeRoot_7 : decode cX0_takeRoot 7 = .ok (.aload_n 0, 1) := by decide +kernel
theorem dX0_takeRoot_8 : decode cX0_takeRoot 8 = .ok (.getfield 7, 3) := by decide +kernel
theorem dX0_takeRoot_11 : decode cX0_takeRoot 11 = .ok (.lconst 0, 1) := by decide +kernel
theorem dX0_takeRoot_12 : decode cX0_takeRoot 12 = .ok (.lcmp, 1) := by decide +kernel
theorem dX0_takeRoot_13 : decode cX0_takeRoot 13 = .ok (.ifCond .ge 8, 3) := by decide +kernel
theorem dX0_takeRoot_16 : decode cX0_takeRoot 16 = .ok (.aload_n 0, 1) := by decide +kernel
theorem dX0_takeRoot_17 : decode cX0_takeRoot 17 = .ok (.invokevirtual 24, 3) := by decide +kernel
theorem dX0_takeRoot_20 : decode cX0_takeRoot 20 = .ok (.return_, 1) := by decide +kernel
theorem dX0_takeRoot_21 : decode cX0_takeRoot 21 = .ok (.aload_n 0, 1) := by decide +kernel
theorem dX0_takeRoot_22 : decode cX0_takeRoot 22 = .ok (.getfield 7, 3) := by decide +kernel
theorem dX0_takeRoot_25 : decode cX0_takeRoot 25 = .ok (.bipush 16, 2) := by decide +kernel
theorem dX0_takeRoot_27 : decode cX0_takeRoot 27 = .ok (.lshl, 1) := by decide +kernel
theorem dX0_takeRoot_28 : decode cX0_takeRoot 28 = .ok (.invokestatic 47, 3) := by decide +kernel
theorem dX0_takeRoot_31 : decode cX0_takeRoot 31 = .ok (.lstore_n 1, 1) := by decide +kernel
theorem dX0_takeRoot_32 : decode cX0_takeRoot 32 = .ok (.aload_n 0, 1) := by decide +kernel
theorem dX0_takeRoot_33 : decode cX0_takeRoot 33 = .ok (.getfield 13, 3) := by decide +kernel
theorem dX0_takeRoot_36 : decode cX0_takeRoot 36 = .ok (.bipush 16, 2) := by decide +kernel
theorem dX0_takeRoot_38 : decode cX0_takeRoot 38 = .ok (.lshl, 1) := by decide +kernel
theorem dX0_takeRoot_39 : decode cX0_takeRoot 39 = .ok (.invokestatic 47, 3) := by decide +kernel
theorem dX0_takeRoot_42 : decode cX0_takeRoot 42 = .ok (.lstore_n 3, 1) := by decide +kernel
theorem dX0_takeRoot_43 : decode cX0_takeRoot 43 = .ok (.aload_n 0, 1) := by decide +kernel
theorem dX0_takeRoot_44 : decode cX0_takeRoot 44 = .ok (.lload_n 1, 1) := by decide +kernel
theorem dX0_takeRoot_45 : decode cX0_takeRoot 45 = .ok (.lload_n 3, 1) := by decide +kernel
theorem dX0_takeRoot_46 : decode cX0_takeRoot 46 = .ok (.lload_n 3, 1) := by decide +kernel
theorem dX0_takeRoot_47 : decode cX0_takeRoot 47 = .ok (.lmul, 1) := by decide +kernel
theorem dX0_takeRoot_48 : decode cX0_takeRoot 48 = .ok (.aload_n 0, 1) := by decide +kernel
theorem dX0_takeRoot_49 : decode cX0_takeRoot 49 = .ok (.getfield 13, 3) := by decide +kernel
theorem dX0_takeRoot_52 : decode cX0_takeRoot 52 = .ok (.bipush 16, 2) := by decide +kernel
theorem dX0_takeRoot_54 : decode cX0_takeRoot 54 = .ok (.lshl, 1) := by decide +kernel
theorem dX0_takeRoot_55 : decode cX0_takeRoot 55 = .ok (.lcmp, 1) := by decide +kernel
theorem dX0_takeRoot_56 : decode cX0_takeRoot 56 = .ok (.ifCond .ge 9, 3) := by decide +kernel
theorem dX0_takeRoot_59 : decode cX0_takeRoot 59 = .ok (.lload_n 3, 1) := by decide +kernel
theorem dX0_takeRoot_60 : decode cX0_takeRoot 60 = .ok (.lconst 1, 1) := by decide +kernel
theorem dX0_takeRoot_61 : decode cX0_takeRoot 61 = .ok (.ladd, 1) := by decide +kernel
theorem dX0_takeRoot_62 : decode cX0_takeRoot 62 = .ok (.goto 4, 3) := by decide +kernel
theorem dX0_takeRoot_65 : decode cX0_takeRoot 65 = .ok (.lload_n 3, 1) := by decide +kernel
theorem dX0_takeRoot_66 : decode cX0_takeRoot 66 = .ok (.invokevirtual 37, 3) := by decide +kernel
theorem dX0_takeRoot_69 : decode cX0_takeRoot 69 = .ok (.return_, 1) := by decide +kernel
theorem dX0_rootBelow_0 : decode cX0_rootBelow 0 = .ok (.lconst 0, 1) := by decide +kernel
theorem dX0_rootBelow_1 : decode cX0_rootBelow 1 = .ok (.lstore_n 2, 1) := by decide +kernel
theorem dX0_rootBelow_2 : decode cX0_rootBelow 2 = .ok (.bipush 23, 2) := by decide +kernel
theorem dX0_rootBelow_4 : decode cX0_rootBelow 4 = .ok (.istore 4, 2) := by decide +kernel
theorem dX0_rootBelow_6 : decode cX0_rootBelow 6 = .ok (.iload 4, 2) := by decide +kernel
theorem dX0_rootBelow_8 : decode cX0_rootBelow 8 = .ok (.ifCond .lt 30, 3) := by decide +kernel
theorem dX0_rootBelow_11 : decode cX0_rootBelow 11 = .ok (.lload_n 2, 1) := by decide +kernel
theorem dX0_rootBelow_12 : decode cX0_rootBelow 12 = .ok (.lconst 1, 1) := by decide +kernel
theorem dX0_rootBelow_13 : decode cX0_rootBelow 13 = .ok (.iload 4, 2) := by decide +kernel
theorem dX0_rootBelow_15 : decode cX0_rootBelow 15 = .ok (.lshl, 1) := by decide +kernel
theorem dX0_rootBelow_16 : decode cX0_rootBelow 16 = .ok (.lor, 1) := by decide +kernel
theorem dX0_rootBelow_17 : decode cX0_rootBelow 17 = .ok (.lstore 5, 2) := by decide +kernel
theorem dX0_rootBelow_19 : decode cX0_rootBelow 19 = .ok (.lload 5, 2) := by decide +kernel
theorem dX0_rootBelow_21 : decode cX0_rootBelow 21 = .ok (.lload 5, 2) := by decide +kernel
theorem dX0_rootBelow_23 : decode cX0_rootBelow 23 = .ok (.lmul, 1) := by decide +kernel
theorem dX0_rootBelow_24 : decode cX0_rootBelow 24 = .ok (.lload_n 0, 1) := by decide +kernel
theorem dX0_rootBelow_25 : decode cX0_rootBelow 25 = .ok (.lcmp, 1) := by decide +kernel
theorem dX0_rootBelow_26 : decode cX0_rootBelow 26 = .ok (.ifCond .gt 6, 3) := by decide +kernel
theorem dX0_rootBelow_29 : decode cX0_rootBelow 29 = .ok (.lload 5, 2) := by decide +kernel
theorem dX0_rootBelow_31 : decode cX0_rootBelow 31 = .ok (.lstore_n 2, 1) := by decide +kernel
theorem dX0_rootBelow_32 : decode cX0_rootBelow 32 = .ok (.iinc 4 (-1), 3) := by decide +kernel
theorem dX0_rootBelow_35 : decode cX0_rootBelow 35 = .ok (.goto (-29), 3) := by decide +kernel
theorem dX0_rootBelow_38 : decode cX0_rootBelow 38 = .ok (.lload_n 2, 1) := by decide +kernel
theorem dX0_rootBelow_39 : decode cX0_rootBelow 39 = .ok (.lreturn, 1) := by decide +kernel
theorem dX0_shareAmong_0 : decode cX0_shareAmong 0 = .ok (.aload_n 0, 1) := by decide +kernel
theorem dX0_shareAmong_1 : decode cX0_shareAmong 1 = .ok (.getfield 16, 3) := by decide +kernel
theorem dX0_shareAmong_4 : decode cX0_shareAmong 4 = .ok (.ifCond .ne 9, 3) := by decide +kernel
theorem dX0_shareAmong_7 : decode cX0_shareAmong 7 = .ok (.lload_n 1, 1) := by decide +kernel
theorem dX0_shareAmong_8 : decode cX0_shareAmong 8 = .ok (.lconst 0, 1) := by decide +kernel
theorem dX0_shareAmong_9 : decode cX0_shareAmong 9 = .ok (.lcmp, 1) := by decide +kernel
theorem dX0_shareAmong_10 : decode cX0_shareAmong 10 = .ok (.ifCond .gt 8, 3) := by decide +kernel
theorem dX0_shareAmong_13 : decode cX0_shareAmong 13 = .ok (.aload_n 0, 1) := by decide +kernel
theorem dX0_shareAmong_14 : decode cX0_shareAmong 14 = .ok (.invokevirtual 24, 3) := by decide +kernel
theorem dX0_shareAmong_17 : decode cX0_shareAmong 17 = .ok (.return_, 1) := by decide +kernel
theorem dX0_shareAmong_18 : decode cX0_shareAmong 18 = .ok (.aload_n 0, 1) := by decide +kernel
theorem dX0_shareAmong_19 : decode cX0_shareAmong 19 = .ok (.aload_n 0, 1) := by decide +kernel
theorem dX0_shareAmong_20 : decode cX0_shareAmong 20 = .ok (.getfield 7, 3) := by decide +kernel
theorem dX0_shareAmong_23 : decode cX0_shareAmong 23 = .ok (.lload_n 1, 1) := by decide +kernel
theorem dX0_shareAmong_24 : decode cX0_shareAmong 24 = .ok (.invokestatic 29, 3) := by decide +kernel
theorem dX0_shareAmong_27 : decode cX0_shareAmong 27 = .ok (.aload_n 0, 1) := by decide +kernel
theorem dX0_shareAmong_28 : decode cX0_shareAmong 28 = .ok (.getfield 13, 3) := by decide +kernel
theorem dX0_shareAmong_31 : decode cX0_shareAmong 31 = .ok (.lneg, 1) := by decide +kernel
theorem dX0_shareAmong_32 : decode cX0_shareAmong 32 = .ok (.lload_n 1, 1) := by decide +kernel
theorem dX0_shareAmong_33 : decode cX0_shareAmong 33 = .ok (.invokestatic 29, 3) := by decide +kernel
theorem dX0_shareAmong_36 : decode cX0_shareAmong 36 = .ok (.lneg, 1) := by decide +kernel
theorem dX0_shareAmong_37 : decode cX0_shareAmong 37 = .ok (.invokevirtual 37, 3) := by decide +kernel
theorem dX0_shareAmong_40 : decode cX0_shareAmong 40 = .ok (.return_, 1) := by decide +kernel
theorem dX0_norm_0 : decode cX0_norm 0 = .ok (.aload_n 0, 1) := by decide +kernel
theorem dX0_norm_1 : decode cX0_norm 1 = .ok (.lconst 0, 1) := by decide +kernel
theorem dX0_norm_2 : decode cX0_norm 2 = .ok (.lconst 0, 1) := by decide +kernel
theorem dX0_norm_3 : decode cX0_norm 3 = .ok (.invokevirtual 37, 3) := by decide +kernel
theorem dX0_norm_6 : decode cX0_norm 6 = .ok (.aload_n 0, 1) := by decide +kernel
theorem dX0_norm_7 : decode cX0_norm 7 = .ok (.aload_n 1, 1) := by decide +kernel
theorem dX0_norm_8 : decode cX0_norm 8 = .ok (.getfield 51, 3) := by decide +kernel
theorem dX0_norm_11 : decode cX0_norm 11 = .ok (.invokevirtual 57, 3) := by decide +kernel
theorem dX0_norm_14 : decode cX0_norm 14 = .ok (.aload_n 0, 1) := by decide +kernel
theorem dX0_norm_15 : decode cX0_norm 15 = .ok (.aload_n 1, 1) := by decide +kernel
theorem dX0_norm_16 : decode cX0_norm 16 = .ok (.getfield 61, 3) := by decide +kernel
theorem dX0_norm_19 : decode cX0_norm 19 = .ok (.invokevirtual 57, 3) := by decide +kernel
theorem dX0_norm_22 : decode cX0_norm 22 = .ok (.return_, 1) := by decide +kernel
theorem dX0_dot_0 : decode cX0_dot 0 = .ok (.aload_n 0, 1) := by decide +kernel
theorem dX0_dot_1 : decode cX0_dot 1 = .ok (.lconst 0, 1) := by decide +kernel
theorem dX0_dot_2 : decode cX0_dot 2 = .ok (.lconst 0, 1) := by decide +kernel
theorem dX0_dot_3 : decode cX0_dot 3 = .ok (.invokevirtual 37, 3) := by decide +kernel
theorem dX0_dot_6 : decode cX0_dot 6 = .ok (.aload_n 0, 1) := by decide +kernel
theorem dX0_dot_7 : decode cX0_dot 7 = .ok (.iconst 1, 1) := by decide +kernel
theorem dX0_dot_8 : decode cX0_dot 8 = .ok (.aload_n 1, 1) := by decide +kernel
theorem dX0_dot_9 : decode cX0_dot 9 = .ok (.getfield 51, 3) := by decide +kernel
theorem dX0_dot_12 : decode cX0_dot 12 = .ok (.aload_n 2, 1) := by decide +kernel
theorem dX0_dot_13 : decode cX0_dot 13 = .ok (.getfield 51, 3) := by decide +kernel
theorem dX0_dot_16 : decode cX0_dot 16 = .ok (.invokevirtual 64, 3) := by decide +kernel
theorem dX0_dot_19 : decode cX0_dot 19 = .ok (.aload_n 0, 1) := by decide +kernel
theorem dX0_dot_20 : decode cX0_dot 20 = .ok (.iconst 1, 1) := by decide +kernel
theorem dX0_dot_21 : decode cX0_dot 21 = .ok (.aload_n 1, 1) := by decide +kernel
theorem dX0_dot_22 : decode cX0_dot 22 = .ok (.getfield 61, 3) := by decide +kernel
theorem dX0_dot_25 : decode cX0_dot 25 = .ok (.aload_n 2, 1) := by decide +kernel
theorem dX0_dot_26 : decode cX0_dot 26 = .ok (.getfield 61, 3) := by decide +kernel
theorem dX0_dot_29 : decode cX0_dot 29 = .ok (.invokevirtual 64, 3) := by decide +kernel
theorem dX0_dot_32 : decode cX0_dot 32 = .ok (.return_, 1) := by decide +kernel
theorem dX0_cross_0 : decode cX0_cross 0 = .ok (.aload_n 0, 1) := by decide +kernel
theorem dX0_cross_1 : decode cX0_cross 1 = .ok (.lconst 0, 1) := by decide +kernel
theorem dX0_cross_2 : decode cX0_cross 2 = .ok (.lconst 0, 1) := by decide +kernel
theorem dX0_cross_3 : decode cX0_cross 3 = .ok (.invokevirtual 37, 3) := by decide +kernel
theorem dX0_cross_6 : decode cX0_cross 6 = .ok (.aload_n 0, 1) := by decide +kernel
theorem dX0_cross_7 : decode cX0_cross 7 = .ok (.iconst 1, 1) := by decide +kernel
theorem dX0_cross_8 : decode cX0_cross 8 = .ok (.aload_n 1, 1) := by decide +kernel
theorem dX0_cross_9 : decode cX0_cross 9 = .ok (.getfield 51, 3) := by decide +kernel
theorem dX0_cross_12 : decode cX0_cross 12 = .ok (.aload_n 2, 1) := by decide +kernel
theorem dX0_cross_13 : decode cX0_cross 13 = .ok (.getfield 61, 3) := by decide +kernel
theorem dX0_cross_16 : decode cX0_cross 16 = .ok (.invokevirtual 64, 3) := by decide +kernel
theorem dX0_cross_19 : decode cX0_cross 19 = .ok (.aload_n 0, 1) := by decide +kernel
theorem dX0_cross_20 : decode cX0_cross 20 = .ok (.iconst (-1), 1) := by decide +kernel
theorem dX0_cross_21 : decode cX0_cross 21 = .ok (.aload_n 1, 1) := by decide +kernel
theorem dX0_cross_22 : decode cX0_cross 22 = .ok (.getfield 61, 3) := by decide +kernel
theorem dX0_cross_25 : decode cX0_cross 25 = .ok (.aload_n 2, 1) := by decide +kernel
theorem dX0_cross_26 : decode cX0_cross 26 = .ok (.getfield 51, 3) := by decide +kernel
theorem dX0_cross_29 : decode cX0_cross 29 = .ok (.invokevirtual 64, 3) := by decide +kernel
theorem dX0_cross_32 : decode cX0_cross 32 = .ok (.return_, 1) := by decide +kernel
theorem dJ9_floorDiv_f86c9_0 : decode cJ9_floorDiv_f86c9 0 = .ok (.lload_n 0, 1) := by decide +kernel
theorem dJ9_floorDiv_f86c9_1 : decode cJ9_floorDiv_f86c9 1 = .ok (.lload_n 2, 1) := by decide +kernel
theorem dJ9_floorDiv_f86c9_2 : decode cJ9_floorDiv_f86c9 2 = .ok (.ldiv, 1) := by decide +kernel
theorem dJ9_floorDiv_f86c9_3 : decode cJ9_floorDiv_f86c9 3 = .ok (.lstore 4, 2) := by decide +kernel
theorem dJ9_floorDiv_f86c9_5 : decode cJ9_floorDiv_f86c9 5 = .ok (.lload_n 0, 1) := by decide +kernel
theorem dJ9_floorDiv_f86c9_6 : decode cJ9_floorDiv_f86c9 6 = .ok (.lload_n 2, 1) := by decide +kernel
theorem dJ9_floorDiv_f86c9_7 : decode cJ9_floorDiv_f86c9 7 = .ok (.lxor, 1) := by decide +kernel
theorem dJ9_floorDiv_f86c9_8 : decode cJ9_floorDiv_f86c9 8 = .ok (.lconst 0, 1) := by decide +kernel
theorem dJ9_floorDiv_f86c9_9 : decode cJ9_floorDiv_f86c9 9 = .ok (.lcmp, 1) := by decide +kernel
theorem dJ9_floorDiv_f86c9_10 : decode cJ9_floorDiv_f86c9 10 = .ok (.ifCond .ge 17, 3) := by decide +kernel
theorem dJ9_floorDiv_f86c9_13 : decode cJ9_floorDiv_f86c9 13 = .ok (.lload 4, 2) := by decide +kernel
theorem dJ9_floorDiv_f86c9_15 : decode cJ9_floorDiv_f86c9 15 = .ok (.lload_n 2, 1) := by decide +kernel
theorem dJ9_floorDiv_f86c9_16 : decode cJ9_floorDiv_f86c9 16 = .ok (.lmul, 1) := by decide +kernel
theorem dJ9_floorDiv_f86c9_17 : decode cJ9_floorDiv_f86c9 17 = .ok (.lload_n 0, 1) := by decide +kernel
theorem dJ9_floorDiv_f86c9_18 : decode cJ9_floorDiv_f86c9 18 = .ok (.lcmp, 1) := by decide +kernel
theorem dJ9_floorDiv_f86c9_19 : decode cJ9_floorDiv_f86c9 19 = .ok (.ifCond .eq 8, 3) := by decide +kernel
theorem dJ9_floorDiv_f86c9_22 : decode cJ9_floorDiv_f86c9 22 = .ok (.lload 4, 2) := by decide +kernel
theorem dJ9_floorDiv_f86c9_24 : decode cJ9_floorDiv_f86c9 24 = .ok (.lconst 1, 1) := by decide +kernel
theorem dJ9_floorDiv_f86c9_25 : decode cJ9_floorDiv_f86c9 25 = .ok (.lsub, 1) := by decide +kernel
theorem dJ9_floorDiv_f86c9_26 : decode cJ9_floorDiv_f86c9 26 = .ok (.lreturn, 1) := by decide +kernel
theorem dJ9_floorDiv_f86c9_27 : decode cJ9_floorDiv_f86c9 27 = .ok (.lload 4, 2) := by decide +kernel
theorem dJ9_floorDiv_f86c9_29 : decode cJ9_floorDiv_f86c9 29 = .ok (.lreturn, 1) := by decide +kernel
theorem dJ9_max_f86c9_0 : decode cJ9_max_f86c9 0 = .ok (.lload_n 0, 1) := by decide +kernel
theorem dJ9_max_f86c9_1 : decode cJ9_max_f86c9 1 = .ok (.lload_n 2, 1) := by decide +kernel
theorem dJ9_max_f86c9_2 : decode cJ9_max_f86c9 2 = .ok (.lcmp, 1) := by decide +kernel
theorem dJ9_max_f86c9_3 : decode cJ9_max_f86c9 3 = .ok (.ifCond .lt 7, 3) := by decide +kernel
theorem dJ9_max_f86c9_6 : decode cJ9_max_f86c9 6 = .ok (.lload_n 0, 1) := by decide +kernel
theorem dJ9_max_f86c9_7 : decode cJ9_max_f86c9 7 = .ok (.goto 4, 3) := by decide +kernel
theorem dJ9_max_f86c9_10 : decode cJ9_max_f86c9 10 = .ok (.lload_n 2, 1) := by decide +kernel
theorem dJ9_max_f86c9_11 : decode cJ9_max_f86c9 11 = .ok (.lreturn, 1) := by decide +kernel
theorem dJ9_min_f86c9_0 : decode cJ9_min_f86c9 0 = .ok (.lload_n 0, 1) := by decide +kernel
theorem dJ9_min_f86c9_1 : decode cJ9_min_f86c9 1 = .ok (.lload_n 2, 1) := by decide +kernel
theorem dJ9_min_f86c9_2 : decode cJ9_min_f86c9 2 = .ok (.lcmp, 1) := by decide +kernel
theorem dJ9_min_f86c9_3 : decode cJ9_min_f86c9 3 = .ok (.ifCond .gt 7, 3) := by decide +kernel
theorem dJ9_min_f86c9_6 : decode cJ9_min_f86c9 6 = .ok (.lload_n 0, 1) := by decide +kernel
theorem dJ9_min_f86c9_7 : decode cJ9_min_f86c9 7 = .ok (.goto 4, 3) := by decide +kernel
theorem dJ9_min_f86c9_10 : decode cJ9_min_f86c9 10 = .ok (.lload_n 2, 1) := by decide +kernel
theorem dJ9_min_f86c9_11 : decode cJ9_min_f86c9 11 = .ok (.lreturn, 1) := by decide +kernel
