theorem dX0_init_0 : decode cX0_init 0 = .ok (.aload_n 0, 1) := by decide +kernel
theorem dX0_init_1 : decode cX0_init 1 = .ok (.invokespecial 1, 3) := by decide +kernel
theorem dX0_init_4 : decode cX0_init 4 = .ok (.aload_n 0, 1) := by decide +kernel
theorem dX0_init_5 : decode cX0_init 5 = .ok (.lconst 0, 1) := by decide +kernel
theorem dX0_init_6 : decode cX0_init 6 = .ok (.putfield 7, 3) := by decide +kernel
theorem dX0_init_9 : decode cX0_init 9 = .ok (.aload_n 0, 1) := by decide +kernel
theorem dX0_init_10 : decode cX0_init 10 = .ok (.lconst 0, 1) := by decide +kernel
theorem dX0_init_11 : decode cX0_init 11 = .ok (.putfield 13, 3) := by decide +kernel
theorem dX0_init_14 : decode cX0_init 14 = .ok (.aload_n 0, 1) := by decide +kernel
theorem dX0_init_15 : decode cX0_init 15 = .ok (.iconst 0, 1) := by decide +kernel
theorem dX0_init_16 : decode cX0_init 16 = .ok (.putfield 16, 3) := by decide +kernel
theorem dX0_init_19 : decode cX0_init 19 = .ok (.return_, 1) := by decide +kernel
theorem dX0_keep_0 : decode cX0_keep 0 = .ok (.aload_n 0, 1) := by decide +kernel
theorem dX0_keep_1 : decode cX0_keep 1 = .ok (.lload_n 1, 1) := by decide +kernel
theorem dX0_keep_2 : decode cX0_keep 2 = .ok (.putfield 7, 3) := by decide +kernel
theorem dX0_keep_5 : decode cX0_keep 5 = .ok (.aload_n 0, 1) := by decide +kernel
theorem dX0_keep_6 : decode cX0_keep 6 = .ok (.lload_n 3, 1) := by decide +kernel
theorem dX0_keep_7 : decode cX0_keep 7 = .ok (.putfield 13, 3) := by decide +kernel
theorem dX0_keep_10 : decode cX0_keep 10 = .ok (.aload_n 0, 1) := by decide +kernel
theorem dX0_keep_11 : decode cX0_keep 11 = .ok (.lload_n 1, 1) := by decide +kernel
theorem dX0_keep_12 : decode cX0_keep 12 = .ok (.ldc2_w 20, 3) := by decide +kernel
theorem dX0_keep_15 : decode cX0_keep 15 = .ok (.lcmp, 1) := by decide +kernel
theorem dX0_keep_16 : decode cX0_keep 16 = .ok (.ifCond .lt 11, 3) := by decide +kernel
theorem dX0_keep_19 : decode cX0_keep 19 = .ok (.lload_n 3, 1) := by decide +kernel
theorem dX0_keep_20 : decode cX0_keep 20 = .ok (.ldc2_w 22, 3) := by decide +kernel
theorem dX0_keep_23 : decode cX0_keep 23 = .ok (.lcmp, 1) := by decide +kernel
theorem dX0_keep_24 : decode cX0_keep 24 = .ok (.ifCond .le 7, 3) := by decide +kernel
theorem dX0_keep_27 : decode cX0_keep 27 = .ok (.iconst 1, 1) := by decide +kernel
theorem dX0_keep_28 : decode cX0_keep 28 = .ok (.goto 4, 3) := by decide +kernel
theorem dX0_keep_31 : decode cX0_keep 31 = .ok (.iconst 0, 1) := by decide +kernel
theorem dX0_keep_32 : decode cX0_keep 32 = .ok (.putfield 16, 3) := by decide +kernel
theorem dX0_keep_35 : decode cX0_keep 35 = .ok (.return_, 1) := by decide +kernel
theorem dX0_shut_0 : decode cX0_shut 0 = .ok (.aload_n 0, 1) := by decide +kernel
theorem dX0_shut_1 : decode cX0_shut 1 = .ok (.lconst 0, 1) := by decide +kernel
theorem dX0_shut_2 : decode cX0_shut 2 = .ok (.putfield 7, 3) := by decide +kernel
theorem dX0_shut_5 : decode cX0_shut 5 = .ok (.aload_n 0, 1) := by decide +kernel
theorem dX0_shut_6 : decode cX0_shut 6 = .ok (.lconst 0, 1) := by decide +kernel
theorem dX0_shut_7 : decode cX0_shut 7 = .ok (.putfield 13, 3) := by decide +kernel
theorem dX0_shut_10 : decode cX0_shut 10 = .ok (.aload_n 0, 1) := by decide +kernel
theorem dX0_shut_11 : decode cX0_shut 11 = .ok (.iconst 1, 1) := by decide +kernel
theorem dX0_shut_12 : decode cX0_shut 12 = .ok (.putfield 16, 3) := by decide +kernel
theorem dX0_shut_15 : decode cX0_shut 15 = .ok (.return_, 1) := by decide +kernel
theorem dX0_copy_0 : decode cX0_copy 0 = .ok (.aload_n 0, 1) := by decide +kernel
theorem dX0_copy_1 : decode cX0_copy 1 = .ok (.aload_n 1, 1) := by decide +kernel
theorem dX0_copy_2 : decode cX0_copy 2 = .ok (.getfield 7, 3) := by decide +kernel
theorem dX0_copy_5 : decode cX0_copy 5 = .ok (.putfield 7, 3) := by decide +kernel
theorem dX0_copy_8 : decode cX0_copy 8 = .ok (.aload_n 0, 1) := by decide +kernel
theorem dX0_copy_9 : decode cX0_copy 9 = .ok (.aload_n 1, 1) := by decide +kernel
theorem dX0_copy_10 : decode cX0_copy 10 = .ok (.getfield 13, 3) := by decide +kernel
theorem dX0_copy_13 : decode cX0_copy 13 = .ok (.putfield 13, 3) := by decide +kernel
theorem dX0_copy_16 : decode cX0_copy 16 = .ok (.aload_n 0, 1) := by decide +kernel
theorem dX0_copy_17 : decode cX0_copy 17 = .ok (.aload_n 1, 1) := by decide +kernel
theorem dX0_copy_18 : decode cX0_copy 18 = .ok (.getfield 16, 3) := by decide +kernel
theorem dX0_copy_21 : decode cX0_copy 21 = .ok (.putfield 16, 3) := by decide +kernel
theorem dX0_copy_24 : decode cX0_copy 24 = .ok (.return_, 1) := by decide +kernel
theorem dX0_number_0 : decode cX0_number 0 = .ok (.iload_n 1, 1) := by decide +kernel
theorem dX0_number_1 : decode cX0_number 1 = .ok (.ifCond .ne 10, 3) := by decide +kernel
theorem dX0_number_4 : decode cX0_number 4 = .ok (.aload_n 0, 1) := by decide +kernel
theorem dX0_number_5 : decode cX0_number 5 = .ok (.getfield 7, 3) := by decide +kernel
theorem dX0_number_8 : decode cX0_number 8 = .ok (.goto 7, 3) := by decide +kernel
theorem dX0_number_11 : decode cX0_number 11 = .ok (.aload_n 0, 1) := by decide +kernel
theorem dX0_number_12 : decode cX0_number 12 = .ok (.getfield 13, 3) := by decide +kernel
theorem dX0_number_15 : decode cX0_number 15 = .ok (.lreturn, 1) := by decide +kernel
theorem dX0_fraction_0 : decode cX0_fraction 0 = .ok (.lload_n 3, 1) := by decide +kernel
theorem dX0_fraction_1 : decode cX0_fraction 1 = .ok (.lconst 0, 1) := by decide +kernel
theorem dX0_fraction_2 : decode cX0_fraction 2 = .ok (.lcmp, 1) := by decide +kernel
theorem dX0_fraction_3 : decode cX0_fraction 3 = .ok (.ifCond .gt 8, 3) := by decide +kernel
theorem dX0_fraction_6 : decode cX0_fraction 6 = .ok (.aload_n 0, 1) := by decide +kernel
theorem dX0_fraction_7 : decode cX0_fraction 7 = .ok (.invokevirtual 24, 3) := by decide +kernel
theorem dX0_fraction_10 : decode cX0_fraction 10 = .ok (.return_, 1) := by decide +kernel
theorem dX0_fraction_11 : decode cX0_fraction 11 = .ok (.aload_n 0, 1) := by decide +kernel
theorem dX0_fraction_12 : decode cX0_fraction 12 = .ok (.ldc2_w 27, 3) := by decide +kernel
theorem dX0_fraction_15 : decode cX0_fraction 15 = .ok (.lload_n 1, 1) := by decide +kernel
theorem dX0_fraction_16 : decode cX0_fraction 16 = .ok (.lmul, 1) := by decide +kernel
theorem dX0_fraction_17 : decode cX0_fraction 17 = .ok (.lload_n 3, 1) := by decide +kernel
theorem dX0_fraction_18 : decode cX0_fraction 18 = .ok (.invokestatic 29, 3) := by decide +kernel
theorem dX0_fraction_21 : decode cX0_fraction 21 = .ok (.ldc2_w 35, 3) := by decide +kernel
theorem dX0_fraction_24 : decode cX0_fraction 24 = .ok (.lload_n 1, 1) := by decide +kernel
theorem dX0_fraction_25 : decode cX0_fraction 25 = .ok (.lmul, 1) := by decide +kernel
theorem dX0_fraction_26 : decode cX0_fraction 26 = .ok (.lload_n 3, 1) := by decide +kernel
theorem dX0_fraction_27 : decode cX0_fraction 27 = .ok (.invokestatic 29, 3) := by decide +kernel
theorem dX0_fraction_30 : decode cX0_fraction 30 = .ok (.lneg, 1) := by decide +kernel
theorem dX0_fraction_31 : decode cX0_fraction 31 = .ok (.invokevirtual 37, 3) := by decide +kernel
theorem dX0_fraction_34 : decode cX0_fraction 34 = .ok (.return_, 1) := by decide +kernel
theorem dX0_plus_0 : decode cX0_plus 0 = .ok (.aload_n 1, 1) := by decide +kernel
theorem dX0_plus_1 : decode cX0_plus 1 = .ok (.getfield 16, 3) := by decide +kernel
theorem dX0_plus_4 : decode cX0_plus 4 = .ok (.ifCond .ne 10, 3) := by decide +kernel
theorem dX0_plus_7 : decode cX0_plus 7 = .ok (.aload_n 2, 1) := by decide +kernel
theorem dX0_plus_8 : decode cX0_plus 8 = .ok (.getfield 16, 3) := by decide +kernel
theorem dX0_plus_11 : decode cX0_plus 11 = .ok (.ifCond .eq 8, 3) := by decide +kernel
theorem dX0_plus_14 : decode cX0_plus 14 = .ok (.aload_n 0, 1) := by decide +kernel
theorem dX0_plus_15 : decode cX0_plus 15 = .ok (.invokevirtual 24, 3) := by decide +kernel
theorem dX0_plus_18 : decode cX0_plus 18 = .ok (.return_, 1) := by decide +kernel
theorem dX0_plus_19 : decode cX0_plus 19 = .ok (.aload_n 0, 1) := by decide +kernel
theorem dX0_plus_20 : decode cX0_plus 20 = .ok (.aload_n 1, 1) := by decide +kernel
theorem dX0_plus_21 : decode cX0_plus 21 = .ok (.getfield 7, 3) := by decide +kernel
theorem dX0_plus_24 : decode cX0_plus 24 = .ok (.aload_n 2, 1) := by decide +kernel
theorem dX0_plus_25 : decode cX0_plus 25 = .ok (.getfield 7, 3) := by decide +kernel
theorem dX0_plus_28 : decode cX0_plus 28 = .ok (.ladd, 1) := by decide +kernel
theorem dX0_plus_29 : decode cX0_plus 29 = .ok (.aload_n 1, 1) := by decide +kernel
theorem dX0_plus_30 : decode cX0_plus 30 = .ok (.getfield 13, 3) := by decide +kernel
theorem dX0_plus_33 : decode cX0_plus 33 = .ok (.aload_n 2, 1) := by decide +kernel
theorem dX0_plus_34 : decode cX0_plus 34 = .ok (.getfield 13, 3) := by decide +kernel
theorem dX0_plus_37 : decode cX0_plus 37 = .ok (.ladd, 1) := by decide +kernel
theorem dX0_plus_38 : decode cX0_plus 38 = .ok (.invokevirtual 37, 3) := by decide +kernel
theorem dX0_plus_41 : decode cX0_plus 41 = .ok (.return_, 1) := by decide +kernel
theorem dX0_minus_0 : decode cX0_minus 0 = .ok (.aload_n 1, 1) := by decide +kernel
theorem dX0_minus_1 : decode cX0_minus 1 = .ok (.getfield 16, 3) := by decide +kernel
theorem dX0_minus_4 : decode cX0_minus 4 = .ok (.ifCond .ne 10, 3) := by decide +kernel
theorem dX0_minus_7 : decode cX0_minus 7 = .ok (.aload_n 2, 1) := by decide +kernel
theorem dX0_minus_8 : decode cX0_minus 8 = .ok (.getfield 16, 3) := by decide +kernel
theorem dX0_minus_11 : decode cX0_minus 11 = .ok (.ifCond .eq 8, 3) := by decide +kernel
theorem dX0_minus_14 : decode cX0_minus 14 = .ok (.aload_n 0, 1) := by decide +kernel
theorem dX0_minus_15 : decode cX0_minus 15 = .ok (.invokevirtual 24, 3) := by decide +kernel
theorem dX0_minus_18 : decode cX0_minus 18 = .ok (.return_, 1) := by decide +kernel
theorem dX0_minus_19 : decode cX0_minus 19 = .ok (.aload_n 0, 1) := by decide +kernel
theorem dX0_minus_20 : decode cX0_minus 20 = .ok (.aload_n 1, 1) := by decide +kernel
theorem dX0_minus_21 : decode cX0_minus 21 = .ok (.getfield 7, 3) := by decide +kernel
theorem dX0_minus_24 : decode cX0_minus 24 = .ok (.aload_n 2, 1) := by decide +kernel
theorem dX0_minus_25 : decode cX0_minus 25 = .ok (.getfield 13, 3) := by decide +kernel
theorem dX0_minus_28 : decode cX0_minus 28 = .ok (.lsub, 1) := by decide +kernel
theorem dX0_minus_29 : decode cX0_minus 29 = .ok (.aload_n 1, 1) := by decide +kernel
theorem dX0_minus_30 : decode cX0_minus 30 = .ok (.getfield 13, 3) := by decide +kernel
theorem dX0_minus_33 : decode cX0_minus 33 = .ok (.aload_n 2, 1) := by decide +kernel
theorem dX0_minus_34 : decode cX0_minus 34 = .ok (.getfield 7, 3) := by decide +kernel
theorem dX0_minus_37 : decode cX0_minus 37 = .ok (.lsub, 1) := by decide +kernel
theorem dX0_minus_38 : decode cX0_minus 38 = .ok (.invokevirtual 37, 3) := by decide +kernel
theorem dX0_minus_41 : decode cX0_minus 41 = .ok (.return_, 1) := by decide +kernel
theorem dX0_negative_0 : decode cX0_negative 0 = .ok (.aload_n 1, 1) := by decide +kernel
theorem dX0_negative_1 : decode cX0_negative 1 = .ok (.getfield 16, 3) := by decide +kernel
theorem dX0_negative_4 : decode cX0_negative 4 = .ok (.ifCond .eq 8, 3) := by decide +kernel
theorem dX0_negative_7 : decode cX0_negative 7 = .ok (.aload_n 0, 1) := by decide +kernel
theorem dX0_negative_8 : decode cX0_negative 8 = .ok (.invokevirtual 24, 3) := by decide +kernel
theorem dX0_negative_11 : decode cX0_negative 11 = .ok (.return_, 1) := by decide +kernel
theorem dX0_negative_12 : decode cX0_negative 12 = .ok (.aload_n 0, 1) := by decide +kernel
theorem dX0_negative_13 : decode cX0_negative 13 = .ok (.aload_n 1, 1) := by decide +kernel
theorem dX0_negative_14 : decode cX0_negative 14 = .ok (.getfield 13, 3) := by decide +kernel
theorem dX0_negative_17 : decode cX0_negative 17 = .ok (.lneg, 1) := by decide +kernel
theorem dX0_negative_18 : decode cX0_negative 18 = .ok (.aload_n 1, 1) := by decide +kernel
theorem dX0_negative_19 : decode cX0_negative 19 = .ok (.getfield 7, 3) := by decide +kernel
theorem dX0_negative_22 : decode cX0_negative 22 = .ok (.lneg, 1) := by decide +kernel
theorem dX0_negative_23 : decode cX0_negative 23 = .ok (.invokevirtual 37, 3) := by decide +kernel
theorem dX0_negative_26 : decode cX0_negative 26 = .ok (.return_, 1) := by decide +kernel
theorem dX0_addProduct_0 : decode cX0_addProduct 0 = .ok (.aload_n 0, 1) := by decide +kernel
theorem dX0_addProduct_1 : decode cX0_addProduct 1 = .ok (.getfield 16, 3) := by decide +kernel
theorem dX0_addProduct_4 : decode cX0_addProduct 4 = .ok (.ifCond .ne 17, 3) := by decide +kernel
theorem dX0_addProduct_7 : decode cX0_addProduct 7 = .ok (.aload_n 2, 1) := by decide +kernel
theorem dX0_addProduct_8 : decode cX0_addProduct 8 = .ok (.getfield 16, 3) := by decide +kernel
theorem dX0_addProduct_11 : decode cX0_addProduct 11 = .ok (.ifCond .ne 10, 3) := by decide +kernel
theorem dX0_addProduct_14 : decode cX0_addProduct 14 = .ok (.aload_n 3, 1) := by decide +kernel
theorem dX0_addProduct_15 : decode cX0_addProduct 15 = .ok (.getfield 16, 3) := by decide +kernel
theorem dX0_addProduct_18 : decode cX0_addProduct 18 = .ok (.ifCond .eq 8, 3) := by decide +kernel
theorem dX0_addProduct_21 : decode cX0_addProduct 21 = .ok (.aload_n 0, 1) := by decide +kernel
theorem dX0_addProduct_22 : decode cX0_addProduct 22 = .ok (.invokevirtual 24, 3) := by decide +kernel
theorem dX0_addProduct_25 : decode cX0_addProduct 25 = .ok (.return_, 1) := by decide +kernel
theorem dX0_addProduct_26 : decode cX0_addProduct 26 = .ok (.aload_n 2, 1) := by decide +kernel
theorem dX0_addProduct_27 : decode cX0_addProduct 27 = .ok (.getfield 7, 3) := by decide +kernel
theorem dX0_addProduct_30 : decode cX0_addProduct 30 = .ok (.aload_n 3, 1) := by decide +kernel
theorem dX0_addProduct_31 : decode cX0_addProduct 31 = .ok (.getfield 7, 3) := by decide +kernel
theorem dX0_addProduct_34 : decode cX0_addProduct 34 = .ok (.lmul, 1) := by decide +kernel
theorem dX0_addProduct_35 : decode cX0_addProduct 35 = .ok (.lstore 4, 2) := by decide +kernel
theorem dX0_addProduct_37 : decode cX0_addProduct 37 = .ok (.aload_n 2, 1) := by decide +kernel
theorem dX0_addProduct_38 : decode cX0_addProduct 38 = .ok (.getfield 7, 3) := by decide +kernel
theorem dX0_addProduct_41 : decode cX0_addProduct 41 = .ok (.aload_n 3, 1) := by decide +kernel
theorem dX0_addProduct_42 : decode cX0_addProduct 42 = .ok (.getfield 13, 3) := by decide +kernel
theorem dX0_addProduct_45 : decode cX0_addProduct 45 = .ok (.lmul, 1) := by decide +kernel
theorem dX0_addProduct_46 : decode cX0_addProduct 46 = .ok (.lstore 6, 2) := by decide +kernel
theorem dX0_addProduct_48 : decode cX0_addProduct 48 = .ok (.aload_n 2, 1) := by decide +kernel
theorem dX0_addProduct_49 : decode cX0_addProduct 49 = .ok (.getfield 13, 3) := by decide +kernel
theorem dX0_addProduct_52 : decode cX0_addProduct 52 = .ok (.aload_n 3, 1) := by decide +kernel
theorem dX0_addProduct_53 : decode cX0_addProduct 53 = .ok (.getfield 7, 3) := by decide +kernel
theorem dX0_addProduct_56 : decode cX0_addProduct 56 = .ok (.lmul, 1) := by decide +kernel
theorem dX0_addProduct_57 : decode cX0_addProduct 57 = .ok (.lstore 8, 2) := by decide +kernel
theorem dX0_addProduct_59 : decode cX0_addProduct 59 = .ok (.aload_n 2, 1) := by decide +kernel
theorem dX0_addProduct_60 : decode cX0_addProduct 60 = .ok (.getfield 13, 3) := by decide +kernel
theorem dX0_addProduct_63 : decode cX0_addProduct 63 = .ok (.aload_n 3, 1) := by decide +kernel
theorem dX0_addProduct_64 : decode cX0_addProduct 64 = .ok (.getfield 13, 3) := by decide +kernel
theorem dX0_addProduct_67 : decode cX0_addProduct 67 = .ok (.lmul, 1) := by decide +kernel
theorem dX0_addProduct_68 : decode cX0_addProduct 68 = .ok (.lstore 10, 2) := by decide +kernel
theorem dX0_addProduct_70 : decode cX0_addProduct 70 = .ok (.lload 4, 2) := by decide +kernel
theorem dX0_addProduct_72 : decode cX0_addProduct 72 = .ok (.lload 6, 2) := by decide +kernel
theorem dX0_addProduct_74 : decode cX0_addProduct 74 = .ok (.invokestatic 41, 3) := by decide +kernel
theorem dX0_addProduct_77 : decode cX0_addProduct 77 = .ok (.lload 8, 2) := by decide +kernel
theorem dX0_addProduct_79 : decode cX0_addProduct 79 = .ok (.lload 10, 2) := by decide +kernel
theorem dX0_addProduct_81 : decode cX0_addProduct 81 = .ok (.invokestatic 41, 3) := by decide +kernel
theorem dX0_addProduct_84 : decode cX0_addProduct 84 = .ok (.invokestatic 41, 3) := by decide +kernel
theorem dX0_addProduct_87 : decode cX0_addProduct 87 = .ok (.bipush 16, 2) := by decide +kernel
theorem dX0_addProduct_89 : decode cX0_addProduct 89 = .ok (.lshr, 1) := by decide +kernel
theorem dX0_addProduct_90 : decode cX0_addProduct 90 = .ok (.lstore 12, 2) := by decide +kernel
theorem dX0_addProduct_92 : decode cX0_addProduct 92 = .ok (.lload 4, 2) := by decide +kernel
theorem dX0_addProduct_94 : decode cX0_addProduct 94 = .ok (.lload 6, 2) := by decide +kernel
theorem dX0_addProduct_96 : decode cX0_addProduct 96 = .ok (.invokestatic 44, 3) := by decide +kernel
theorem dX0_addProduct_99 : decode cX0_addProduct 99 = .ok (.lload 8, 2) := by decide +kernel
theorem dX0_addProduct_101 : decode cX0_addProduct 101 = .ok (.lload 10, 2) := by decide +kernel
theorem dX0_addProduct_103 : decode cX0_addProduct 103 = .ok (.invokestatic 44, 3) := by decide +kernel
theorem dX0_addProduct_106 : decode cX0_addProduct 106 = .ok (.invokestatic 44, 3) := by decide +kernel
theorem dX0_addProduct_109 : decode cX0_addProduct 109 = .ok (.lneg, 1) := by decide +kernel
theorem dX0_addProduct_110 : decode cX0_addProduct 110 = .ok (.bipush 16, 2) := by decide +kernel
theorem dX0_addProduct_112 : decode cX0_addProduct 112 = .ok (.lshr, 1) := by decide +kernel
theorem dX0_addProduct_113 : decode cX0_addProduct 113 = .ok (.lneg, 1) := by decide +kernel
theorem dX0_addProduct_114 : decode cX0_addProduct 114 = .ok (.lstore 14, 2) := by decide +kernel
theorem dX0_addProduct_116 : decode cX0_addProduct 116 = .ok (.lload 12, 2) := by decide +kernel
theorem dX0_addProduct_118 : decode cX0_addProduct 118 = .ok (.ldc2_w 20, 3) := by decide +kernel
theorem dX0_addProduct_121 : decode cX0_addProduct 121 = .ok (.lcmp, 1) := by decide +kernel
theorem dX0_addProduct_122 : decode cX0_addProduct 122 = .ok (.ifCond .lt 12, 3) := by decide +kernel
theorem dX0_addProduct_125 : decode cX0_addProduct 125 = .ok (.lload 14, 2) := by decide +kernel
theorem dX0_addProduct_127 : decode cX0_addProduct 127 = .ok (.ldc2_w 22, 3) := by decide +kernel
theorem dX0_addProduct_130 : decode cX0_addProduct 130 = .ok (.lcmp, 1) := by decide +kernel
theorem dX0_addProduct_131 : decode cX0_addProduct 131 = .ok (.ifCond .le 10, 3) := by decide +kernel
theorem dX0_addProduct_134 : decode cX0_addProduct 134 = .ok (.aload_n 0, 1) := by decide +kernel
theorem dX0_addProduct_135 : decode cX0_addProduct 135 = .ok (.invokevirtual 24, 3) := by decide +kernel
theorem dX0_addProduct_138 : decode cX0_addProduct 138 = .ok (.goto 46, 3) := by decide +kernel
theorem dX0_addProduct_141 : decode cX0_addProduct 141 = .ok (.iload_n 1, 1) := by decide +kernel
theorem dX0_addProduct_142 : decode cX0_addProduct 142 = .ok (.ifCond .le 24, 3) := by decide +kernel
theorem dX0_addProduct_145 : decode cX0_addProduct 145 = .ok (.aload_n 0, 1) := by decide +kernel
theorem dX0_addProduct_146 : decode cX0_addProduct 146 = .ok (.aload_n 0, 1) := by decide +kernel
theorem dX0_addProduct_147 : decode cX0_addProduct 147 = .ok (.getfield 7, 3) := by decide +kernel
theorem dX0_addProduct_150 : decode cX0_addProduct 150 = .ok (.lload 12, 2) := by decide +kernel
theorem dX0_addProduct_152 : decode cX0_addProduct 152 = .ok (.ladd, 1) := by decide +kernel
theorem dX0_addProduct_153 : decode cX0_addProduct 153 = .ok (.aload_n 0, 1) := by decide +kernel
theorem dX0_addProduct_154 : decode cX0_addProduct 154 = .ok (.getfield 13, 3) := by decide +kernel
theorem dX0_addProduct_157 : decode cX0_addProduct 157 = .ok (.lload 14, 2) := by decide +kernel
theorem dX0_addProduct_159 : decode cX0_addProduct 159 = .ok (.ladd, 1) := by decide +kernel
theorem dX0_addProduct_160 : decode cX0_addProduct 160 = .ok (.invokevirtual 37, 3) := by decide +kernel
theorem dX0_addProduct_163 : decode cX0_addProduct 163 = .ok (.goto 21, 3) := by decide +kernel
theorem dX0_addProduct_166 : decode cX0_addProduct 166 = .ok (.aload_n 0, 1) := by decide +kernel
theorem dX0_addProduct_167 : decode cX0_addProduct 167 = .ok (.aload_n 0, 1) := by decide +kernel
theorem dX0_addProduct_168 : decode cX0_addProduct 168 = .ok (.getfield 7, 3) := by decide +kernel
theorem dX0_addProduct_171 : decode cX0_addProduct 171 = .ok (.lload 14, 2) := by decide +kernel
theorem dX0_addProduct_173 : decode cX0_addProduct 173 = .ok (.lsub, 1) := by decide +kernel
theorem dX0_addProduct_174 : decode cX0_addProduct 174 = .ok (.aload_n 0, 1) := by decide +kernel
theorem dX0_addProduct_175 : decode cX0_addProduct 175 = .ok (.getfield 13, 3) := by decide +kernel
theorem dX0_addProduct_178 : decode cX0_addProduct 178 = .ok (.lload 12, 2) := by decide +kernel
theorem dX0_addProduct_180 : decode cX0_addProduct 180 = .ok (.lsub, 1) := by decide +kernel
theorem dX0_addProduct_181 : decode cX0_addProduct 181 = .ok (.invokevirtual 37, 3) := by decide +kernel
theorem dX0_addProduct_184 : decode cX0_addProduct 184 = .ok (.return_, 1) := by decide +kernel
theorem dX0_addSquare_0 : decode cX0_addSquare 0 = .ok (.aload_n 0, 1) := by decide +kernel
theorem dX0_addSquare_1 : decode cX0_addSquare 1 = .ok (.getfield 16, 3) := by decide +kernel
theorem dX0_addSquare_4 : decode cX0_addSquare 4 = .ok (.ifCond .ne 10, 3) := by decide +kernel
theorem dX0_addSquare_7 : decode cX0_addSquare 7 = .ok (.aload_n 1, 1) := by decide +kernel
theorem dX0_addSquare_8 : decode cX0_addSquare 8 = .ok (.getfield 16, 3) := by decide +kernel
theorem dX0_addSquare_11 : decode cX0_addSquare 11 = .ok (.ifCond .eq 8, 3) := by decide +kernel
theorem dX0_addSquare_14 : decode cX0_addSquare 14 = .ok (.aload_n 0, 1) := by decide +kernel
theorem dX0_addSquare_15 : decode cX0_addSquare 15 = .ok (.invokevirtual 24, 3) := by decide +kernel
theorem dX0_addSquare_18 : decode cX0_addSquare 18 = .ok (.return_, 1) := by decide +kernel
theorem dX0_addSquare_19 : decode cX0_addSquare 19 = .ok (.aload_n 1, 1) := by decide +kernel
theorem dX0_addSquare_20 : decode cX0_addSquare 20 = .ok (.getfield 7, 3) := by decide +kernel
theorem dX0_addSquare_23 : decode cX0_addSquare 23 = .ok (.aload_n 1, 1) := by decide +kernel
theorem dX0_addSquare_24 : decode cX0_addSquare 24 = .ok (.getfield 7, 3) := by decide +kernel
theorem dX0_addSquare_27 : decode cX0_addSquare 27 = .ok (.lmul, 1) := by decide +kernel
theorem dX0_addSquare_28 : decode cX0_addSquare 28 = .ok (.lstore_n 2, 1) := by decide +kernel
theorem dX0_addSquare_29 : decode cX0_addSquare 29 = .ok (.aload_n 1, 1) := by decide +kernel
theorem dX0_addSquare_30 : decode cX0_addSquare 30 = .ok (.getfield 13, 3) := by decide +kernel
theorem dX0_addSquare_33 : decode cX0_addSquare 33 = .ok (.aload_n 1, 1) := by decide +kernel
theorem dX0_addSquare_34 : decode cX0_addSquare 34 = .ok (.getfield 13, 3) := by decide +kernel
theorem dX0_addSquare_37 : decode cX0_addSquare 37 = .ok (.lmul, 1) := by decide +kernel
theorem dX0_addSquare_38 : decode cX0_addSquare 38 = .ok (.lstore 4, 2) := by decide +kernel
theorem dX0_addSquare_40 : decode cX0_addSquare 40 = .ok (.aload_n 1, 1) := by decide +kernel
theorem dX0_addSquare_41 : decode cX0_addSquare 41 = .ok (.getfield 7, 3) := by decide +kernel
theorem dX0_addSquare_44 : decode cX0_addSquare 44 = .ok (.lconst 0, 1) := by decide +kernel
theorem dX0_addSquare_45 : decode cX0_addSquare 45 = .ok (.lcmp, 1) := by decide +kernel
theorem dX0_addSquare_46 : decode cX0_addSquare 46 = .ok (.ifCond .gt 16, 3) := by decide +kernel
theorem dX0_addSquare_49 : decode cX0_addSquare 49 = .ok (.aload_n 1, 1) := by decide +kernel
theorem dX0_addSquare_50 : decode cX0_addSquare 50 = .ok (.getfield 13, 3) := by decide +kernel
theorem dX0_addSquare_53 : decode cX0_addSquare 53 = .ok (.lconst 0, 1) := by decide +kernel
theorem dX0_addSquare_54 : decode cX0_addSquare 54 = .ok (.lcmp, 1) := by decide +kernel
theorem dX0_addSquare_55 : decode cX0_addSquare 55 = .ok (.ifCond .lt 7, 3) := by decide +kernel
theorem dX0_addSquare_58 : decode cX0_addSquare 58 = .ok (.lconst 0, 1) := by decide +kernel
theorem dX0_addSquare_59 : decode cX0_addSquare 59 = .ok (.goto 12, 3) := by decide +kernel
theorem dX0_addSquare_62 : decode cX0_addSquare 62 = .ok (.lload_n 2, 1) := by decide +kernel
theorem dX0_addSquare_63 : decode cX0_addSquare 63 = .ok (.lload 4, 2) := by decide +kernel
theorem dX0_addSquare_65 : decode cX0_addSquare 65 = .ok (.invokestatic 41, 3) := by decide +kernel
theorem dX0_addSquare_68 : decode cX0_addSquare 68 = .ok (.bipush 16, 2) := by decide +kernel
theorem dX0_addSquare_70 : decode cX0_addSquare 70 = .ok (.lshr, 1) := by decide +kernel
theorem dX0_addSquare_71 : decode cX0_addSquare 71 = .ok (.lstore 6, 2) := by decide +kernel
theorem dX0_addSquare_73 : decode cX0_addSquare 73 = .ok (.lload_n 2, 1) := by decide +kernel
theorem dX0_addSquare_74 : decode cX0_addSquare 74 = .ok (.lload 4, 2) := by decide +kernel
theorem dX0_addSquare_76 : decode cX0_addSquare 76 = .ok (.invokestatic 44, 3) := by decide +kernel
theorem dX0_addSquare_79 : decode cX0_addSquare 79 = .ok (.lneg, 1) := by decide +kernel
theorem dX0_addSquare_80 : decode cX0_addSquare 80 = .ok (.bipush 16, 2) := by decide +kernel
theorem dX0_addSquare_82 : decode cX0_addSquare 82 = .ok (.lshr, 1) := by decide +kernel
theorem dX0_addSquare_83 : decode cX0_addSquare 83 = .ok (.lneg, 1) := by decide +kernel
theorem dX0_addSquare_84 : decode cX0_addSquare 84 = .ok (.lstore 8, 2) := by decide +kernel
theorem dX0_addSquare_86 : decode cX0_addSquare 86 = .ok (.lload 8, 2) := by decide +kernel
theorem dX0_addSquare_88 : decode cX0_addSquare 88 = .ok (.ldc2_w 22, 3) := by decide +kernel
theorem dX0_addSquare_91 : decode cX0_addSquare 91 = .ok (.lcmp, 1) := by decide +kernel
theorem dX0_addSquare_92 : decode cX0_addSquare 92 = .ok (.ifCond .le 10, 3) := by decide +kernel
theorem dX0_addSquare_95 : decode cX0_addSquare 95 = .ok (.aload_n 0, 1) := by decide +kernel
theorem dX0_addSquare_96 : decode cX0_addSquare 96 = .ok (.invokevirtual 24, 3) := by decide +kernel
theorem dX0_addSquare_99 : decode cX0_addSquare 99 = .ok (.goto 21, 3) := by decide +kernel
theorem dX0_addSquare_102 : decode cX0_addSquare 102 = .ok (.aload_n 0, 1) := by decide +kernel
theorem dX0_addSquare_103 : decode cX0_addSquare 103 = .ok (.aload_n 0, 1) := by decide +kernel
theorem dX0_addSquare_104 : decode cX0_addSquare 104 = .ok (.getfield 7, 3) := by decide +kernel
theorem dX0_addSquare_107 : decode cX0_addSquare 107 = .ok (.lload 6, 2) := by decide +kernel
theorem dX0_addSquare_109 : decode cX0_addSquare 109 = .ok (.ladd, 1) := by decide +kernel
theorem dX0_addSquare_110 : decode cX0_addSquare 110 = .ok (.aload_n 0, 1) := by decide +kernel
theorem dX0_addSquare_111 : decode cX0_addSquare 111 = .ok (.getfield 13, 3) := by decide +kernel
theorem dX0_addSquare_114 : decode cX0_addSquare 114 = .ok (.lload 8, 2) := by decide +kernel
theorem dX0_addSquare_116 : decode cX0_addSquare 116 = .ok (.ladd, 1) := by decide +kernel
theorem dX0_addSquare_117 : decode cX0_addSquare 117 = .ok (.invokevirtual 37, 3) := by decide +kernel
theorem dX0_addSquare_120 : decode cX0_addSquare 120 = .ok (.return_, 1) := by decide +kernel
theorem dX0_addWhole_0 : decode cX0_addWhole 0 = .ok (.aload_n 0, 1) := by decide +kernel
theorem dX0_addWhole_1 : decode cX0_addWhole 1 = .ok (.getfield 16, 3) := by decide +kernel
theorem dX0_addWhole_4 : decode cX0_addWhole 4 = .ok (.ifCond .ne 10, 3) := by decide +kernel
theorem dX0_addWhole_7 : decode cX0_addWhole 7 = .ok (.aload_n 3, 1) := by decide +kernel
theorem dX0_addWhole_8 : decode cX0_addWhole 8 = .ok (.getfield 16, 3) := by decide +kernel
theorem dX0_addWhole_11 : decode cX0_addWhole 11 = .ok (.ifCond .eq 8, 3) := by decide +kernel
theorem dX0_addWhole_14 : decode cX0_addWhole 14 = .ok (.aload_n 0, 1) := by decide +kernel
theorem dX0_addWhole_15 : decode cX0_addWhole 15 = .ok (.invokevirtual 24, 3) := by decide +kernel
theorem dX0_addWhole_18 : decode cX0_addWhole 18 = .ok (.return_, 1) := by decide +kernel
theorem dX0_addWhole_19 : decode cX0_addWhole 19 = .ok (.lload_n 1, 1) := by decide +kernel
theorem dX0_addWhole_20 : decode cX0_addWhole 20 = .ok (.lconst 0, 1) := by decide +kernel
theorem dX0_addWhole_21 : decode cX0_addWhole 21 = .ok (.lcmp, 1) := by decide +kernel
theorem dX0_addWhole_22 : decode cX0_addWhole 22 = .ok (.ifCond .lt 12, 3) := by decide +kernel
theorem dX0_addWhole_25 : decode cX0_addWhole 25 = .ok (.lload_n 1, 1) := by decide +kernel
theorem dX0_addWhole_26 : decode cX0_addWhole 26 = .ok (.aload_n 3, 1) := by decide +kernel
theorem dX0_addWhole_27 : decode cX0_addWhole 27 = .ok (.getfield 7, 3) := by decide +kernel
theorem dX0_addWhole_30 : decode cX0_addWhole 30 = .ok (.lmul, 1) := by decide +kernel
theorem dX0_addWhole_31 : decode cX0_addWhole 31 = .ok (.goto 9, 3) := by decide +kernel
theorem dX0_addWhole_34 : decode cX0_addWhole 34 = .ok (.lload_n 1, 1) := by decide +kernel
theorem dX0_addWhole_35 : decode cX0_addWhole 35 = .ok (.aload_n 3, 1) := by decide +kernel
theorem dX0_addWhole_36 : decode cX0_addWhole 36 = .ok (.getfield 13, 3) := by decide +kernel
theorem dX0_addWhole_39 : decode cX0_addWhole 39 = .ok (.lmul, 1) := by decide +kernel
theorem dX0_addWhole_40 : decode cX0_addWhole 40 = .ok (.lstore 4, 2) := by decide +kernel
theorem dX0_addWhole_42 : decode cX0_addWhole 42 = .ok (.lload_n 1, 1) := by decide +kernel
theorem dX0_addWhole_43 : decode cX0_addWhole 43 = .ok (.lconst 0, 1) := by decide +kernel
theorem dX0_addWhole_44 : decode cX0_addWhole 44 = .ok (.lcmp, 1) := by decide +kernel
theorem dX0_addWhole_45 : decode cX0_addWhole 45 = .ok (.ifCond .lt 12, 3) := by decide +kernel
theorem dX0_addWhole_48 : decode cX0_addWhole 48 = .ok (.lload_n 1, 1) := by decide +kernel
theorem dX0_addWhole_49 : decode cX0_addWhole 49 = .ok (.aload_n 3, 1) := by decide +kernel
theorem dX0_addWhole_50 : decode cX0_addWhole 50 = .ok (.getfield 13, 3) := by decide +kernel
theorem dX0_addWhole_53 : decode cX0_addWhole 53 = .ok (.lmul, 1) := by decide +kernel
theorem dX0_addWhole_54 : decode cX0_addWhole 54 = .ok (.goto 9, 3) := by decide +kernel
theorem dX0_addWhole_57 : decode cX0_addWhole 57 = .ok (.lload_n 1, 1) := by decide +kernel
theorem dX0_addWhole_58 : decode cX0_addWhole 58 = .ok (.aload_n 3, 1) := by decide +kernel
theorem dX0_addWhole_59 : decode cX0_addWhole 59 = .ok (.getfield 7, 3) := by decide +kernel
theorem dX0_addWhole_62 : decode cX0_addWhole 62 = .ok (.lmul, 1) := by decide +kernel
theorem dX0_addWhole_63 : decode cX0_addWhole 63 = .ok (.lstore 6, 2) := by decide +kernel
theorem dX0_addWhole_65 : decode cX0_addWhole 65 = .ok (.lload 4, 2) := by decide +kernel
theorem dX0_addWhole_67 : decode cX0_addWhole 67 = .ok (.ldc2_w 20, 3) := by decide +kernel
theorem dX0_addWhole_70 : decode cX0_addWhole 70 = .ok (.lcmp, 1) := by decide +kernel
theorem dX0_addWhole_71 : decode cX0_addWhole 71 = .ok (.ifCond .lt 12, 3) := by decide +kernel
theorem dX0_addWhole_74 : decode cX0_addWhole 74 = .ok (.lload 6, 2) := by decide +kernel
theorem dX0_addWhole_76 : decode cX0_addWhole 76 = .ok (.ldc2_w 22, 3) := by decide +kernel
theorem dX0_addWhole_79 : decode cX0_addWhole 79 = .ok (.lcmp, 1) := by decide +kernel
theorem dX0_addWhole_80 : decode cX0_addWhole 80 = .ok (.ifCond .le 10, 3) := by decide +kernel
theorem dX0_addWhole_83 : decode cX0_addWhole 83 = .ok (.aload_n 0, 1) := by decide +kernel
theorem dX0_addWhole_84 : decode cX0_addWhole 84 = .ok (.invokevirtual 24, 3) := by decide +kernel
theorem dX0_addWhole_87 : decode cX0_addWhole 87 = .ok (.goto 21, 3) := by decide +kernel
theorem dX0_addWhole_90 : decode cX0_addWhole 90 = .ok (.aload_n 0, 1) := by decide +kernel
theorem dX0_addWhole_91 : decode cX0_addWhole 91 = .ok (.aload_n 0, 1) := by decide +kernel
theorem dX0_addWhole_92 : decode cX0_addWhole 92 = .ok (.getfield 7, 3) := by decide +kernel
theorem dX0_addWhole_95 : decode cX0_addWhole 95 = .ok (.lload 4, 2) := by decide +kernel
theorem dX0_addWhole_97 : decode cX0_addWhole 97 = .ok (.ladd, 1) := by decide +kernel
theorem dX0_addWhole_98 : decode cX0_addWhole 98 = .ok (.aload_n 0, 1) := by decide +kernel
theorem dX0_addWhole_99 : decode cX0_addWhole 99 = .ok (.getfield 13, 3) := by decide +kernel
theorem dX0_addWhole_102 : decode cX0_addWhole 102 = .ok (.lload 6, 2) := by decide +kernel
theorem dX0_addWhole_104 : decode cX0_addWhole 104 = .ok (.ladd, 1) := by decide +kernel
theorem dX0_addWhole_105 : decode cX0_addWhole 105 = .ok (.invokevirtual 37, 3) := by decide +kernel
theorem dX0_addWhole_108 : decode cX0_addWhole 108 = .ok (.return_, 1) := by decide +kernel
theorem dX0_quotient_0 : decode cX0_quotient 0 = .ok (.aload_n 1, 1) := by decide +kernel
theorem dX0_quotient_1 : decode cX0_quotient 1 = .ok (.getfield 16, 3) := by decide +kernel
theorem dX0_quotient_4 : decode cX0_quotient 4 = .ok (.ifCond .ne 28, 3) := by decide +kernel
theorem dX0_quotient_7 : decode cX0_quotient 7 = .ok (.aload_n 2, 1) := by decide +kernel
theorem dX0_quotient_8 : decode cX0_quotient 8 = .ok (.getfield 16, 3) := by decide +kernel
theorem dX0_quotient_11 : decode cX0_quotient 11 = .ok (.ifCond .ne 21, 3) := by decide +kernel
theorem dX0_quotient_14 : decode cX0_quotient 14 = .ok (.aload_n 2, 1) := by decide +kernel
theorem dX0_quotient_15 : decode cX0_quotient 15 = .ok (.getfield 7, 3) := by decide +kernel
theorem dX0_quotient_18 : decode cX0_quotient 18 = .ok (.lconst 0, 1) := by decide +kernel
theorem dX0_quotient_19 : decode cX0_quotient 19 = .ok (.lcmp, 1) := by decide +kernel
theorem dX0_quotient_20 : decode cX0_quotient 20 = .ok (.ifCond .gt 17, 3) := by decide +kernel
theorem dX0_quotient_23 : decode cX0_quotient 23 = .ok (.aload_n 2, 1) := by decide +kernel
theorem dX0_quotient_24 : decode cX0_quotient 24 = .ok (.getfield 13, 3) := by decide +kernel
theorem dX0_quotient_27 : decode cX0_quotient 27 = .ok (.lconst 0, 1) := by decide +kernel
theorem dX0_quotient_28 : decode cX0_quotient 28 = .ok (.lcmp, 1) := by decide +kernel
theorem dX0_quotient_29 : decode cX0_quotient 29 = .ok (.ifCond .lt 8, 3) := by decide +kernel
theorem dX0_quotient_32 : decode cX0_quotient 32 = .ok (.aload_n 0, 1) := by decide +kernel
theorem dX0_quotient_33 : decode cX0_quotient 33 = .ok (.invokevirtual 24, 3) := by decide +kernel
theorem dX0_quotient_36 : decode cX0_quotient 36 = .ok (.return_, 1) := by decide +kernel
theorem dX0_quotient_37 : decode cX0_quotient 37 = .ok (.aload_n 2, 1) := by decide +kernel
theorem dX0_quotient_38 : decode cX0_quotient 38 = .ok (.getfield 13, 3) := by decide +kernel
theorem dX0_quotient_41 : decode cX0_quotient 41 = .ok (.lconst 0, 1) := by decide +kernel
theorem dX0_quotient_42 : decode cX0_quotient 42 = .ok (.lcmp, 1) := by decide +kernel
theorem dX0_quotient_43 : decode cX0_quotient 43 = .ok (.ifCond .ge 7, 3) := by decide +kernel
theorem dX0_quotient_46 : decode cX0_quotient 46 = .ok (.iconst 1, 1) := by decide +kernel
theorem dX0_quotient_47 : decode cX0_quotient 47 = .ok (.goto 4, 3) := by decide +kernel
theorem dX0_quotient_50 : decode cX0_quotient 50 = .ok (.iconst 0, 1) := by decide +kernel
theorem dX0_quotient_51 : decode cX0_quotient 51 = .ok (.istore_n 3, 1) := by decide +kernel
theorem dX0_quotient_52 : decode cX0_quotient 52 = .ok (.ldc2_w 27, 3) := by decide +kernel
theorem dX0_quotient_55 : decode cX0_quotient 55 = .ok (.iload_n 3, 1) := by decide +kernel
theorem dX0_quotient_56 : decode cX0_quotient 56 = .ok (.ifCond .eq 11, 3) := by decide +kernel
theorem dX0_quotient_59 : decode cX0_quotient 59 = .ok (.aload_n 1, 1) := by decide +kernel
theorem dX0_quotient_60 : decode cX0_quotient 60 = .ok (.getfield 13, 3) := by decide +kernel
theorem dX0_quotient_63 : decode cX0_quotient 63 = .ok (.lneg, 1) := by decide +kernel
theorem dX0_quotient_64 : decode cX0_quotient 64 = .ok (.goto 7, 3) := by decide +kernel
theorem dX0_quotient_67 : decode cX0_quotient 67 = .ok (.aload_n 1, 1) := by decide +kernel
theorem dX0_quotient_68 : decode cX0_quotient 68 = .ok (.getfield 7, 3) := by decide +kernel
theorem dX0_quotient_71 : decode cX0_quotient 71 = .ok (.lmul, 1) := by decide +kernel
theorem dX0_quotient_72 : decode cX0_quotient 72 = .ok (.lstore 4, 2) := by decide +kernel
theorem dX0_quotient_74 : decode cX0_quotient 74 = .ok (.ldc2_w 27, 3) := by decide +kernel
theorem dX0_quotient_77 : decode cX0_quotient 77 = .ok (.iload_n 3, 1) := by decide +kernel
theorem dX0_quotient_78 : decode cX0_quotient 78 = .ok (.ifCond .eq 11, 3) := by decide +kernel
theorem dX0_quotient_81 : decode cX0_quotient 81 = .ok (.aload_n 1, 1) := by decide +kernel
theorem dX0_quotient_82 : decode cX0_quotient 82 = .ok (.getfield 7, 3) := by decide +kernel
theorem dX0_quotient_85 : decode cX0_quotient 85 = .ok (.lneg, 1) := by decide +kernel
theorem dX0_quotient_86 : decode cX0_quotient 86 = .ok (.goto 7, 3) := by decide +kernel
theorem dX0_quotient_89 : decode cX0_quotient 89 = .ok (.aload_n 1, 1) := by decide +kernel
theorem dX0_quotient_90 : decode cX0_quotient 90 = .ok (.getfield 13, 3) := by decide +kernel
theorem dX0_quotient_93 : decode cX0_quotient 93 = .ok (.lmul, 1) := by decide +kernel
theorem dX0_quotient_94 : decode cX0_quotient 94 = .ok (.lstore 6, 2) := by decide +kernel
theorem dX0_quotient_96 : decode cX0_quotient 96 = .ok (.iload_n 3, 1) := by decide +kernel
theorem dX0_quotient_97 : decode cX0_quotient 97 = .ok (.ifCond .eq 11, 3) := by decide +kernel
theorem dX0_quotient_100 : decode cX0_quotient 100 = .ok (.aload_n 2, 1) := by decide +kernel
theorem dX0_quotient_101 : decode cX0_quotient 101 = .ok (.getfield 13, 3) := by decide +kernel
theorem dX0_quotient_104 : decode cX0_quotient 104 = .ok (.lneg, 1) := by decide +kernel
theorem dX0_quotient_105 : decode cX0_quotient 105 = .ok (.goto 7, 3) := by decide +kernel
theorem dX0_quotient_108 : decode cX0_quotient 108 = .ok (.aload_n 2, 1) := by decide +kernel
theorem dX0_quotient_109 : decode cX0_quotient 109 = .ok (.getfield 7, 3) := by decide +kernel
theorem dX0_quotient_112 : decode cX0_quotient 112 = .ok (.lstore 8, 2) := by decide +kernel
theorem dX0_quotient_114 : decode cX0_quotient 114 = .ok (.iload_n 3, 1) := by decide +kernel
theorem dX0_quotient_115 : decode cX0_quotient 115 = .ok (.ifCond .eq 11, 3) := by decide +kernel
theorem dX0_quotient_118 : decode cX0_quotient 118 = .ok (.aload_n 2, 1) := by decide +kernel
theorem dX0_quotient_119 : decode cX0_quotient 119 = .ok (.getfield 7, 3) := by decide +kernel
theorem dX0_quotient_122 : decode cX0_quotient 122 = .ok (.lneg, 1) := by decide +kernel
theorem dX0_quotient_123 : decode cX0_quotient 123 = .ok (.goto 7, 3) := by decide +kernel
theorem dX0_quotient_126 : decode cX0_quotient 126 = .ok (.aload_n 2, 1) := by decide +kernel
theorem dX0_quotient_127 : decode cX0_quotient 127 = .ok (.getfield 13, 3) := by decide +kernel
theorem dX0_quotient_130 : decode cX0_quotient 130 = .ok (.lstore 10, 2) := by decide +kernel
theorem dX0_quotient_132 : decode cX0_quotient 132 = .ok (.aload_n 0, 1) := by decide +kernel
theorem dX0_quotient_133 : decode cX0_quotient 133 = .ok (.lload 4, 2) := by decide +kernel
theorem dX0_quotient_135 : decode cX0_quotient 135 = .ok (.lload 4, 2) := by decide +kernel
theorem dX0_quotient_137 : decode cX0_quotient 137 = .ok (.lconst 0, 1) := by decide +kernel
theorem dX0_quotient_138 : decode cX0_quotient 138 = .ok (.lcmp, 1) := by decide +kernel
theorem dX0_quotient_139 : decode cX0_quotient 139 = .ok (.ifCond .lt 8, 3) := by decide +kernel
theorem dX0_quotient_142 : decode cX0_quotient 142 = .ok (.lload 10, 2) := by decide +kernel
theorem dX0_quotient_144 : decode cX0_quotient 144 = .ok (.goto 5, 3) := by decide +kernel
theorem dX0_quotient_147 : decode cX0_quotient 147 = .ok (.lload 8, 2) := by decide +kernel
theorem dX0_quotient_149 : decode cX0_quotient 149 = .ok (.invokestatic 29, 3) := by decide +kernel
theorem dX0_quotient_152 : decode cX0_quotient 152 = .ok (.lload 6, 2) := by decide +kernel
theorem dX0_quotient_154 : decode cX0_quotient 154 = .ok (.lneg, 1) := by decide +kernel
theorem dX0_quotient_155 : decode cX0_quotient 155 = .ok (.lload 6, 2) := by decide +kernel
theorem dX0_quotient_157 : decode cX0_quotient 157 = .ok (.lconst 0, 1) := by decide +kernel
theorem dX0_quotient_158 : decode cX0_quotient 158 = .ok (.lcmp, 1) := by decide +kernel
theorem dX0_quotient_159 : decode cX0_quotient 159 = .ok (.ifCond .lt 8, 3) := by decide +kernel
theorem dX0_quotient_162 : decode cX0_quotient 162 = .ok (.lload 8, 2) := by decide +kernel
theorem dX0_quotient_164 : decode cX0_quotient 164 = .ok (.goto 5, 3) := by decide +kernel
theorem dX0_quotient_167 : decode cX0_quotient 167 = .ok (.lload 10, 2) := by decide +kernel
theorem dX0_quotient_169 : decode cX0_quotient 169 = .ok (.invokestatic 29, 3) := by decide +kernel
theorem dX0_quotient_172 : decode cX0_quotient 172 = .ok (.lneg, 1) := by decide +kernel
theorem dX0_quotient_173 : decode cX0_quotient 173 = .ok (.invokevirtual 37, 3) := by decide +kernel
theorem dX0_quotient_176 : decode cX0_quotient 176 = .ok (.return_, 1) := by decide +kernel
theorem dX0_takeRoot_0 : decode cX0_takeRoot 0 = .ok (.aload_n 0, 1) := by decide +kernel
theorem dX0_takeRoot_1 : decode cX0_takeRoot 1 = .ok (.getfield 16, 3) := by decide +kernel
theorem dX0_takeRoot_4 : decode cX0_takeRoot 4 = .ok (.ifCond .ne 12, 3) := by decide +kernel
theorem dX0_takeRoot_7 : decode cX0_takeRoot 7 = .ok (.aload_n 0, 1) := by decide +kernel
theorem dX0_takeRoot_8 : decode cX0_takeRoot 8 = .ok (.getfield 7, 3) := by decide +kernel
theorem dX0_takeRoot_11 : decode cX0_takeRoot 11 = .ok (.lconst 0, 1) := by decide +kernel
theorem dX0_takeRoot_12 : decode cX0_takeRoot 12 = .ok (.lcmp, 1) := by decide +kernel
theorem dX0_takeRoot_13 : decode cX0_takeRoot 13 = .ok (.ifCond .ge 8, 3) := by decide +kernel
theorem dX0_takeRoot_16 : decode cX0_takeRoot 16 = .ok (.aload_n 0, 1) := by decide +kernel
theorem dX0_takeRoot_17 : decode cX0_takeRoot 17 = .ok (.invokevirtual 24, 3) := by decide +kernel
theorem dX0_takeRoot_20 : decode cX0_takeRoot 20 = .ok (.return_, 1) := by decide +kernel
theorem dX0_takeRoot_21 : decode cX0_takeRoot 21 = .ok (.aload_n 0, 1) := by decide +kernel
theorem dX0_takeRoot_22 : decode cX0_takeRoot 22 = .ok (.getfield 7, 3) := by decide +kernel
theorem dX0_takeRoot_25 : decode cX0_takeRoot 25 = .ok (.bipush 16, 2) := by decide +kernel
theorem dX0_takeRoot_27 : decode cX0_takeRoot 27 = .ok (.lshl, 1) := by decide +kernel
theorem dX0_takeRoot_28 : decode cX0_takeRoot 28 = .ok (.invokestatic 47, 3) := by decide +kernel
theorem dX0_takeRoot_31 : decode cX0_takeRoot 31 = .ok (.lstore_n 1, 1) := by decide +kernel
theorem dX0_takeRoot_32 : decode cX0_takeRoot 32 = .ok (.aload_n 0, 1) := by decide +kernel
theorem dX0_takeRoot_33 : decode cX0_takeRoot 33 = .ok (.getfield 13, 3) := by decide +kernel
theorem dX0_takeRoot_36 : decode cX0_takeRoot 36 = .ok (.bipush 16, 2) := by decide +kernel
theorem dX0_takeRoot_38 : decode cX0_takeRoot 38 = .ok (.lshl, 1) := by decide +kernel
theorem dX0_takeRoot_39 : decode cX0_takeRoot 39 = .ok (.invokestatic 47, 3) := by decide +kernel
theorem dX0_takeRoot_42 : decode cX0_takeRoot 42 = .ok (.lstore_n 3, 1) := by decide +kernel
theorem dX0_takeRoot_43 : decode cX0_takeRoot 43 = .ok (.aload_n 0, 1) := by decide +kernel
theorem dX0_takeRoot_44 : decode cX0_takeRoot 44 = .ok (.lload_n 1, 1) := by decide +kernel
theorem dX0_takeRoot_45 : decode cX0_takeRoot 45 = .ok (.lload_n 3, 1) := by decide +kernel
theorem dX0_takeRoot_46 : decode cX0_takeRoot 46 = .ok (.lload_n 3, 1) := by decide +kernel
theorem dX0_takeRoot_47 : decode cX0_takeRoot 47 = .ok (.lmul, 1) := by decide +kernel
theorem dX0_takeRoot_48 : decode cX0_takeRoot 48 = .ok (.aload_n 0, 1) := by decide +kernel
theorem dX0_takeRoot_49 : decode cX0_takeRoot 49 = .ok (.getfield 13, 3) := by decide +kernel
theorem dX0_takeRoot_52 : decode cX0_takeRoot 52 = .ok (.bipush 16, 2) := by decide +kernel
theorem dX0_takeRoot_54 : decode cX0_takeRoot 54 = .ok (.lshl, 1) := by decide +kernel
theorem dX0_takeRoot_55 : decode cX0_takeRoot 55 = .ok (.lcmp, 1) := by decide +kernel
theorem dX0_takeRoot_56 : decode cX0_takeRoot 56 = .ok (.ifCond .ge 9, 3) := by decide +kernel
theorem dX0_takeRoot_59 : decode cX0_takeRoot 59 = .ok (.lload_n 3, 1) := by decide +kernel
theorem dX0_takeRoot_60 : decode cX0_takeRoot 60 = .ok (.lconst 1, 1) := by decide +kernel
theorem dX0_takeRoot_61 : decode cX0_takeRoot 61 = .ok (.ladd, 1) := by decide +kernel
theorem dX0_takeRoot_62 : decode cX0_takeRoot 62 = .ok (.goto 4, 3) := by decide +kernel
theorem dX0_takeRoot_65 : decode cX0_takeRoot 65 = .ok (.lload_n 3, 1) := by decide +kernel
theorem dX0_takeRoot_66 : decode cX0_takeRoot 66 = .ok (.invokevirtual 37, 3) := by decide +kernel
theorem dX0_takeRoot_69 : decode cX0_takeRoot 69 = .ok (.return_, 1) := by decide +kernel
theorem dX0_rootBelow_0 : decode cX0_rootBelow 0 = .ok (.lconst 0, 1) := by decide +kernel
theorem dX0_rootBelow_1 : decode cX0_rootBelow 1 = .ok (.lstore_n 2, 1) := by decide +kernel
theorem dX0_rootBelow_2 : decode cX0_rootBelow 2 = .ok (.bipush 23, 2) := by decide +kernel
theorem dX0_rootBelow_4 : decode cX0_rootBelow 4 = .ok (.istore 4, 2) := by decide +kernel
theorem dX0_rootBelow_6 : decode cX0_rootBelow 6 = .ok (.iload 4, 2) := by decide +kernel
theorem dX0_rootBelow_8 : decode cX0_rootBelow 8 = .ok (.ifCond .lt 30, 3) := by decide +kernel
theorem dX0_rootBelow_11 : decode cX0_rootBelow 11 = .ok (.lload_n 2, 1) := by decide +kernel
theorem dX0_rootBelow_12 : decode cX0_rootBelow 12 = .ok (.lconst 1, 1) := by decide +kernel
theorem dX0_rootBelow_13 : decode cX0_rootBelow 13 = .ok (.iload 4, 2) := by decide +kernel
theorem dX0_rootBelow_15 : decode cX0_rootBelow 15 = .ok (.lshl, 1) := by decide +kernel
theorem dX0_rootBelow_16 : decode cX0_rootBelow 16 = .ok (.lor, 1) := by decide +kernel
theorem dX0_rootBelow_17 : decode cX0_rootBelow 17 = .ok (.lstore 5, 2) := by decide +kernel
theorem dX0_rootBelow_19 : decode cX0_rootBelow 19 = .ok (.lload 5, 2) := by decide +kernel
theorem dX0_rootBelow_21 : decode cX0_rootBelow 21 = .ok (.lload 5, 2) := by decide +kernel
theorem dX0_rootBelow_23 : decode cX0_rootBelow 23 = .ok (.lmul, 1) := by decide +kernel
theorem dX0_rootBelow_24 : decode cX0_rootBelow 24 = .ok (.lload_n 0, 1) := by decide +kernel
theorem dX0_rootBelow_25 : decode cX0_rootBelow 25 = .ok (.lcmp, 1) := by decide +kernel
theorem dX0_rootBelow_26 : decode cX0_rootBelow 26 = .ok (.ifCond .gt 6, 3) := by decide +kernel
theorem dX0_rootBelow_29 : decode cX0_rootBelow 29 = .ok (.lload 5, 2) := by decide +kernel
theorem dX0_rootBelow_31 : decode cX0_rootBelow 31 = .ok (.lstore_n 2, 1) := by decide +kernel
theorem dX0_rootBelow_32 : decode cX0_rootBelow 32 = .ok (.iinc 4 (-1), 3) := by decide +kernel
theorem dX0_rootBelow_35 : decode cX0_rootBelow 35 = .ok (.goto (-29), 3) := by decide +kernel
theorem dX0_rootBelow_38 : decode cX0_rootBelow 38 = .ok (.lload_n 2, 1) := by decide +kernel
theorem dX0_rootBelow_39 : decode cX0_rootBelow 39 = .ok (.lreturn, 1) := by decide +kernel
theorem dX0_shareAmong_0 : decode cX0_shareAmong 0 = .ok (.aload_n 0, 1) := by decide +kernel
theorem dX0_shareAmong_1 : decode cX0_shareAmong 1 = .ok (.getfield 16, 3) := by decide +kernel
theorem dX0_shareAmong_4 : decode cX0_shareAmong 4 = .ok (.ifCond .ne 9, 3) := by decide +kernel
theorem dX0_shareAmong_7 : decode cX0_shareAmong 7 = .ok (.lload_n 1, 1) := by decide +kernel
theorem dX0_shareAmong_8 : decode cX0_shareAmong 8 = .ok (.lconst 0, 1) := by decide +kernel
theorem dX0_shareAmong_9 : decode cX0_shareAmong 9 = .ok (.lcmp, 1) := by decide +kernel
theorem dX0_shareAmong_10 : decode cX0_shareAmong 10 = .ok (.ifCond .gt 8, 3) := by decide +kernel
theorem dX0_shareAmong_13 : decode cX0_shareAmong 13 = .ok (.aload_n 0, 1) := by decide +kernel
theorem dX0_shareAmong_14 : decode cX0_shareAmong 14 = .ok (.invokevirtual 24, 3) := by decide +kernel
theorem dX0_shareAmong_17 : decode cX0_shareAmong 17 = .ok (.return_, 1) := by decide +kernel
theorem dX0_shareAmong_18 : decode cX0_shareAmong 18 = .ok (.aload_n 0, 1) := by decide +kernel
theorem dX0_shareAmong_19 : decode cX0_shareAmong 19 = .ok (.aload_n 0, 1) := by decide +kernel
theorem dX0_shareAmong_20 : decode cX0_shareAmong 20 = .ok (.getfield 7, 3) := by decide +kernel
theorem dX0_shareAmong_23 : decode cX0_shareAmong 23 = .ok (.lload_n 1, 1) := by decide +kernel
theorem dX0_shareAmong_24 : decode cX0_shareAmong 24 = .ok (.invokestatic 29, 3) := by decide +kernel
theorem dX0_shareAmong_27 : decode cX0_shareAmong 27 = .ok (.aload_n 0, 1) := by decide +kernel
theorem dX0_shareAmong_28 : decode cX0_shareAmong 28 = .ok (.getfield 13, 3) := by decide +kernel
theorem dX0_shareAmong_31 : decode cX0_shareAmong 31 = .ok (.lneg, 1) := by decide +kernel
theorem dX0_shareAmong_32 : decode cX0_shareAmong 32 = .ok (.lload_n 1, 1) := by decide +kernel
theorem dX0_shareAmong_33 : decode cX0_shareAmong 33 = .ok (.invokestatic 29, 3) := by decide +kernel
theorem dX0_shareAmong_36 : decode cX0_shareAmong 36 = .ok (.lneg, 1) := by decide +kernel
theorem dX0_shareAmong_37 : decode cX0_shareAmong 37 = .ok (.invokevirtual 37, 3) := by decide +kernel
theorem dX0_shareAmong_40 : decode cX0_shareAmong 40 = .ok (.return_, 1) := by decide +kernel
theorem dX0_norm_0 : decode cX0_norm 0 = .ok (.aload_n 0, 1) := by decide +kernel
theorem dX0_norm_1 : decode cX0_norm 1 = .ok (.lconst 0, 1) := by decide +kernel
theorem dX0_norm_2 : decode cX0_norm 2 = .ok (.lconst 0, 1) := by decide +kernel
theorem dX0_norm_3 : decode cX0_norm 3 = .ok (.invokevirtual 37, 3) := by decide +kernel
theorem dX0_norm_6 : decode cX0_norm 6 = .ok (.aload_n 0, 1) := by decide +kernel
theorem dX0_norm_7 : decode cX0_norm 7 = .ok (.aload_n 1, 1) := by decide +kernel
theorem dX0_norm_8 : decode cX0_norm 8 = .ok (.getfield 51, 3) := by decide +kernel
theorem dX0_norm_11 : decode cX0_norm 11 = .ok (.invokevirtual 57, 3) := by decide +kernel
theorem dX0_norm_14 : decode cX0_norm 14 = .ok (.aload_n 0, 1) := by decide +kernel
theorem dX0_norm_15 : decode cX0_norm 15 = .ok (.aload_n 1, 1) := by decide +kernel
theorem dX0_norm_16 : decode cX0_norm 16 = .ok (.getfield 61, 3) := by decide +kernel
theorem dX0_norm_19 : decode cX0_norm 19 = .ok (.invokevirtual 57, 3) := by decide +kernel
theorem dX0_norm_22 : decode cX0_norm 22 = .ok (.return_, 1) := by decide +kernel
theorem dX0_dot_0 : decode cX0_dot 0 = .ok (.aload_n 0, 1) := by decide +kernel
theorem dX0_dot_1 : decode cX0_dot 1 = .ok (.lconst 0, 1) := by decide +kernel
theorem dX0_dot_2 : decode cX0_dot 2 = .ok (.lconst 0, 1) := by decide +kernel
theorem dX0_dot_3 : decode cX0_dot 3 = .ok (.invokevirtual 37, 3) := by decide +kernel
theorem dX0_dot_6 : decode cX0_dot 6 = .ok (.aload_n 0, 1) := by decide +kernel
theorem dX0_dot_7 : decode cX0_dot 7 = .ok (.iconst 1, 1) := by decide +kernel
theorem dX0_dot_8 : decode cX0_dot 8 = .ok (.aload_n 1, 1) := by decide +kernel
theorem dX0_dot_9 : decode cX0_dot 9 = .ok (.getfield 51, 3) := by decide +kernel
theorem dX0_dot_12 : decode cX0_dot 12 = .ok (.aload_n 2, 1) := by decide +kernel
theorem dX0_dot_13 : decode cX0_dot 13 = .ok (.getfield 51, 3) := by decide +kernel
theorem dX0_dot_16 : decode cX0_dot 16 = .ok (.invokevirtual 64, 3) := by decide +kernel
theorem dX0_dot_19 : decode cX0_dot 19 = .ok (.aload_n 0, 1) := by decide +kernel
theorem dX0_dot_20 : decode cX0_dot 20 = .ok (.iconst 1, 1) := by decide +kernel
theorem dX0_dot_21 : decode cX0_dot 21 = .ok (.aload_n 1, 1) := by decide +kernel
theorem dX0_dot_22 : decode cX0_dot 22 = .ok (.getfield 61, 3) := by decide +kernel
theorem dX0_dot_25 : decode cX0_dot 25 = .ok (.aload_n 2, 1) := by decide +kernel
theorem dX0_dot_26 : decode cX0_dot 26 = .ok (.getfield 61, 3) := by decide +kernel
theorem dX0_dot_29 : decode cX0_dot 29 = .ok (.invokevirtual 64, 3) := by decide +kernel
theorem dX0_dot_32 : decode cX0_dot 32 = .ok (.return_, 1) := by decide +kernel
theorem dX0_cross_0 : decode cX0_cross 0 = .ok (.aload_n 0, 1) := by decide +kernel
theorem dX0_cross_1 : decode cX0_cross 1 = .ok (.lconst 0, 1) := by decide +kernel
theorem dX0_cross_2 : decode cX0_cross 2 = .ok (.lconst 0, 1) := by decide +kernel
theorem dX0_cross_3 : decode cX0_cross 3 = .ok (.invokevirtual 37, 3) := by decide +kernel
theorem dX0_cross_6 : decode cX0_cross 6 = .ok (.aload_n 0, 1) := by decide +kernel
theorem dX0_cross_7 : decode cX0_cross 7 = .ok (.iconst 1, 1) := by decide +kernel
theorem dX0_cross_8 : decode cX0_cross 8 = .ok (.aload_n 1, 1) := by decide +kernel
theorem dX0_cross_9 : decode cX0_cross 9 = .ok (.getfield 51, 3) := by decide +kernel
theorem dX0_cross_12 : decode cX0_cross 12 = .ok (.aload_n 2, 1) := by decide +kernel
theorem dX0_cross_13 : decode cX0_cross 13 = .ok (.getfield 61, 3) := by decide +kernel
theorem dX0_cross_16 : decode cX0_cross 16 = .ok (.invokevirtual 64, 3) := by decide +kernel
theorem dX0_cross_19 : decode cX0_cross 19 = .ok (.aload_n 0, 1) := by decide +kernel
theorem dX0_cross_20 : decode cX0_cross 20 = .ok (.iconst (-1), 1) := by decide +kernel
theorem dX0_cross_21 : decode cX0_cross 21 = .ok (.aload_n 1, 1) := by decide +kernel
theorem dX0_cross_22 : decode cX0_cross 22 = .ok (.getfield 61, 3) := by decide +kernel
theorem dX0_cross_25 : decode cX0_cross 25 = .ok (.aload_n 2, 1) := by decide +kernel
theorem dX0_cross_26 : decode cX0_cross 26 = .ok (.getfield 51, 3) := by decide +kernel
theorem dX0_cross_29 : decode cX0_cross 29 = .ok (.invokevirtual 64, 3) := by decide +kernel
theorem dX0_cross_32 : decode cX0_cross 32 = .ok (.return_, 1) := by decide +kernel
theorem dX1_init_0 : decode cX1_init 0 = .ok (.aload_n 0, 1) := by decide +kernel
theorem dX1_init_1 : decode cX1_init 1 = .ok (.invokespecial 1, 3) := by decide +kernel
theorem dX1_init_4 : decode cX1_init 4 = .ok (.aload_n 0, 1) := by decide +kernel
theorem dX1_init_5 : decode cX1_init 5 = .ok (.bipush 30, 2) := by decide +kernel
theorem dX1_init_7 : decode cX1_init 7 = .ok (.newarray .int, 2) := by decide +kernel
theorem dX1_init_9 : decode cX1_init 9 = .ok (.putfield 9, 3) := by decide +kernel
theorem dX1_init_12 : decode cX1_init 12 = .ok (.aload_n 0, 1) := by decide +kernel
theorem dX1_init_13 : decode cX1_init 13 = .ok (.bipush 30, 2) := by decide +kernel
theorem dX1_init_15 : decode cX1_init 15 = .ok (.newarray .int, 2) := by decide +kernel
theorem dX1_init_17 : decode cX1_init 17 = .ok (.putfield 13, 3) := by decide +kernel
theorem dX1_init_20 : decode cX1_init 20 = .ok (.aload_n 0, 1) := by decide +kernel
theorem dX1_init_21 : decode cX1_init 21 = .ok (.bipush 30, 2) := by decide +kernel
theorem dX1_init_23 : decode cX1_init 23 = .ok (.newarray .int, 2) := by decide +kernel
theorem dX1_init_25 : decode cX1_init 25 = .ok (.putfield 16, 3) := by decide +kernel
theorem dX1_init_28 : decode cX1_init 28 = .ok (.aload_n 0, 1) := by decide +kernel
theorem dX1_init_29 : decode cX1_init 29 = .ok (.bipush 30, 2) := by decide +kernel
theorem dX1_init_31 : decode cX1_init 31 = .ok (.newarray .long, 2) := by decide +kernel
theorem dX1_init_33 : decode cX1_init 33 = .ok (.putfield 19, 3) := by decide +kernel
theorem dX1_init_36 : decode cX1_init 36 = .ok (.aload_n 0, 1) := by decide +kernel
theorem dX1_init_37 : decode cX1_init 37 = .ok (.bipush 30, 2) := by decide +kernel
theorem dX1_init_39 : decode cX1_init 39 = .ok (.newarray .long, 2) := by decide +kernel
theorem dX1_init_41 : decode cX1_init 41 = .ok (.putfield 23, 3) := by decide +kernel
theorem dX1_init_44 : decode cX1_init 44 = .ok (.aload_n 0, 1) := by decide +kernel
theorem dX1_init_45 : decode cX1_init 45 = .ok (.new 26, 3) := by decide +kernel
theorem dX1_init_48 : decode cX1_init 48 = .ok (.dup, 1) := by decide +kernel
theorem dX1_init_49 : decode cX1_init 49 = .ok (.invokespecial 28, 3) := by decide +kernel
theorem dX1_init_52 : decode cX1_init 52 = .ok (.putfield 29, 3) := by decide +kernel
theorem dX1_init_55 : decode cX1_init 55 = .ok (.aload_n 0, 1) := by decide +kernel
theorem dX1_init_56 : decode cX1_init 56 = .ok (.new 26, 3) := by decide +kernel
theorem dX1_init_59 : decode cX1_init 59 = .ok (.dup, 1) := by decide +kernel
theorem dX1_init_60 : decode cX1_init 60 = .ok (.invokespecial 28, 3) := by decide +kernel
theorem dX1_init_63 : decode cX1_init 63 = .ok (.putfield 33, 3) := by decide +kernel
theorem dX1_init_66 : decode cX1_init 66 = .ok (.return_, 1) := by decide +kernel
theorem dX1_isRead_0 : decode cX1_isRead 0 = .ok (.aload_n 0, 1) := by decide +kernel
theorem dX1_isRead_1 : decode cX1_isRead 1 = .ok (.iconst 0, 1) := by decide +kernel
theorem dX1_isRead_2 : decode cX1_isRead 2 = .ok (.putfield 36, 3) := by decide +kernel
theorem dX1_isRead_5 : decode cX1_isRead 5 = .ok (.aload_n 1, 1) := by decide +kernel
theorem dX1_isRead_6 : decode cX1_isRead 6 = .ok (.ldc 40, 2) := by decide +kernel
theorem dX1_isRead_8 : decode cX1_isRead 8 = .ok (.invokevirtual 42, 3) := by decide +kernel
theorem dX1_isRead_11 : decode cX1_isRead 11 = .ok (.istore_n 2, 1) := by decide +kernel
theorem dX1_isRead_12 : decode cX1_isRead 12 = .ok (.iconst 0, 1) := by decide +kernel
theorem dX1_isRead_13 : decode cX1_isRead 13 = .ok (.istore_n 3, 1) := by decide +kernel
theorem dX1_isRead_14 : decode cX1_isRead 14 = .ok (.iload_n 3, 1) := by decide +kernel
theorem dX1_isRead_15 : decode cX1_isRead 15 = .ok (.sipush 4000, 3) := by decide +kernel
theorem dX1_isRead_18 : decode cX1_isRead 18 = .ok (.if_icmp .ge 37, 3) := by decide +kernel
theorem dX1_isRead_21 : decode cX1_isRead 21 = .ok (.iload_n 2, 1) := by decide +kernel
theorem dX1_isRead_22 : decode cX1_isRead 22 = .ok (.ifCond .eq 33, 3) := by decide +kernel
theorem dX1_isRead_25 : decode cX1_isRead 25 = .ok (.aload_n 1, 1) := by decide +kernel
theorem dX1_isRead_26 : decode cX1_isRead 26 = .ok (.ldc 40, 2) := by decide +kernel
theorem dX1_isRead_28 : decode cX1_isRead 28 = .ok (.invokevirtual 48, 3) := by decide +kernel
theorem dX1_isRead_31 : decode cX1_isRead 31 = .ok (.ifCond .eq 16, 3) := by decide +kernel
theorem dX1_isRead_34 : decode cX1_isRead 34 = .ok (.aload_n 0, 1) := by decide +kernel
theorem dX1_isRead_35 : decode cX1_isRead 35 = .ok (.aload_n 1, 1) := by decide +kernel
theorem dX1_isRead_36 : decode cX1_isRead 36 = .ok (.iload_n 3, 1) := by decide +kernel
theorem dX1_isRead_37 : decode cX1_isRead 37 = .ok (.invokevirtual 51, 3) := by decide +kernel
theorem dX1_isRead_40 : decode cX1_isRead 40 = .ok (.ifCond .eq 7, 3) := by decide +kernel
theorem dX1_isRead_43 : decode cX1_isRead 43 = .ok (.iconst 1, 1) := by decide +kernel
theorem dX1_isRead_44 : decode cX1_isRead 44 = .ok (.goto 4, 3) := by decide +kernel
theorem dX1_isRead_47 : decode cX1_isRead 47 = .ok (.iconst 0, 1) := by decide +kernel
theorem dX1_isRead_48 : decode cX1_isRead 48 = .ok (.istore_n 2, 1) := by decide +kernel
theorem dX1_isRead_49 : decode cX1_isRead 49 = .ok (.iinc 3 1, 3) := by decide +kernel
theorem dX1_isRead_52 : decode cX1_isRead 52 = .ok (.goto (-38), 3) := by decide +kernel
theorem dX1_isRead_55 : decode cX1_isRead 55 = .ok (.aload_n 1, 1) := by decide +kernel
theorem dX1_isRead_56 : decode cX1_isRead 56 = .ok (.getfield 55, 3) := by decide +kernel
theorem dX1_isRead_59 : decode cX1_isRead 59 = .ok (.ifCond .ne 8, 3) := by decide +kernel
theorem dX1_isRead_62 : decode cX1_isRead 62 = .ok (.aload_n 0, 1) := by decide +kernel
theorem dX1_isRead_63 : decode cX1_isRead 63 = .ok (.aload_n 1, 1) := by decide +kernel
theorem dX1_isRead_64 : decode cX1_isRead 64 = .ok (.invokevirtual 58, 3) := by decide +kernel
theorem dX1_isRead_67 : decode cX1_isRead 67 = .ok (.aload_n 1, 1) := by decide +kernel
theorem dX1_isRead_68 : decode cX1_isRead 68 = .ok (.getfield 55, 3) := by decide +kernel
theorem dX1_isRead_71 : decode cX1_isRead 71 = .ok (.ifCond .ne 7, 3) := by decide +kernel
theorem dX1_isRead_74 : decode cX1_isRead 74 = .ok (.iconst 1, 1) := by decide +kernel
theorem dX1_isRead_75 : decode cX1_isRead 75 = .ok (.goto 4, 3) := by decide +kernel
theorem dX1_isRead_78 : decode cX1_isRead 78 = .ok (.iconst 0, 1) := by decide +kernel
theorem dX1_isRead_79 : decode cX1_isRead 79 = .ok (.ireturn, 1) := by decide +kernel
theorem dX1_isTaken_0 : decode cX1_isTaken 0 = .ok (.iload_n 2, 1) := by decide +kernel
theorem dX1_isTaken_1 : decode cX1_isTaken 1 = .ok (.bipush 30, 2) := by decide +kernel
theorem dX1_isTaken_3 : decode cX1_isTaken 3 = .ok (.if_icmp .lt 15, 3) := by decide +kernel
theorem dX1_isTaken_6 : decode cX1_isTaken 6 = .ok (.aload_n 1, 1) := by decide +kernel
theorem dX1_isTaken_7 : decode cX1_isTaken 7 = .ok (.bipush 6, 2) := by decide +kernel
theorem dX1_isTaken_9 : decode cX1_isTaken 9 = .ok (.aload_n 1, 1) := by decide +kernel
theorem dX1_isTaken_10 : decode cX1_isTaken 10 = .ok (.getfield 62, 3) := by decide +kernel
theorem dX1_isTaken_13 : decode cX1_isTaken 13 = .ok (.invokevirtual 65, 3) := by decide +kernel
theorem dX1_isTaken_16 : decode cX1_isTaken 16 = .ok (.iconst 0, 1) := by decide +kernel
theorem dX1_isTaken_17 : decode cX1_isTaken 17 = .ok (.ireturn, 1) := by decide +kernel
theorem dX1_isTaken_18 : decode cX1_isTaken 18 = .ok (.iconst 0, 1) := by decide +kernel
theorem dX1_isTaken_19 : decode cX1_isTaken 19 = .ok (.istore_n 3, 1) := by decide +kernel
theorem dX1_isTaken_20 : decode cX1_isTaken 20 = .ok (.iload_n 3, 1) := by decide +kernel
theorem dX1_isTaken_21 : decode cX1_isTaken 21 = .ok (.aload_n 1, 1) := by decide +kernel
theorem dX1_isTaken_22 : decode cX1_isTaken 22 = .ok (.getfield 69, 3) := by decide +kernel
theorem dX1_isTaken_25 : decode cX1_isTaken 25 = .ok (.if_icmp .ge 30, 3) := by decide +kernel
theorem dX1_isTaken_28 : decode cX1_isTaken 28 = .ok (.aload_n 1, 1) := by decide +kernel
theorem dX1_isTaken_29 : decode cX1_isTaken 29 = .ok (.iload_n 3, 1) := by decide +kernel
theorem dX1_isTaken_30 : decode cX1_isTaken 30 = .ok (.invokevirtual 72, 3) := by decide +kernel
theorem dX1_isTaken_33 : decode cX1_isTaken 33 = .ok (.ifCond .ne 16, 3) := by decide +kernel
theorem dX1_isTaken_36 : decode cX1_isTaken 36 = .ok (.aload_n 1, 1) := by decide +kernel
theorem dX1_isTaken_37 : decode cX1_isTaken 37 = .ok (.iconst 5, 1) := by decide +kernel
theorem dX1_isTaken_38 : decode cX1_isTaken 38 = .ok (.aload_n 1, 1) := by decide +kernel
theorem dX1_isTaken_39 : decode cX1_isTaken 39 = .ok (.getfield 76, 3) := by decide +kernel
theorem dX1_isTaken_42 : decode cX1_isTaken 42 = .ok (.iload_n 3, 1) := by decide +kernel
theorem dX1_isTaken_43 : decode cX1_isTaken 43 = .ok (.iaload, 1) := by decide +kernel
theorem dX1_isTaken_44 : decode cX1_isTaken 44 = .ok (.invokevirtual 65, 3) := by decide +kernel
theorem dX1_isTaken_47 : decode cX1_isTaken 47 = .ok (.iconst 0, 1) := by decide +kernel
theorem dX1_isTaken_48 : decode cX1_isTaken 48 = .ok (.ireturn, 1) := by decide +kernel
theorem dX1_isTaken_49 : decode cX1_isTaken 49 = .ok (.iinc 3 1, 3) := by decide +kernel
theorem dX1_isTaken_52 : decode cX1_isTaken 52 = .ok (.goto (-32), 3) := by decide +kernel
theorem dX1_isTaken_55 : decode cX1_isTaken 55 = .ok (.aload_n 0, 1) := by decide +kernel
theorem dX1_isTaken_56 : decode cX1_isTaken 56 = .ok (.getfield 9, 3) := by decide +kernel
theorem dX1_isTaken_59 : decode cX1_isTaken 59 = .ok (.iload_n 2, 1) := by decide +kernel
theorem dX1_isTaken_60 : decode cX1_isTaken 60 = .ok (.aload_n 1, 1) := by decide +kernel
theorem dX1_isTaken_61 : decode cX1_isTaken 61 = .ok (.iconst 0, 1) := by decide +kernel
theorem dX1_isTaken_62 : decode cX1_isTaken 62 = .ok (.invokevirtual 79, 3) := by decide +kernel
theorem dX1_isTaken_65 : decode cX1_isTaken 65 = .ok (.iastore, 1) := by decide +kernel
theorem dX1_isTaken_66 : decode cX1_isTaken 66 = .ok (.aload_n 0, 1) := by decide +kernel
theorem dX1_isTaken_67 : decode cX1_isTaken 67 = .ok (.getfield 13, 3) := by decide +kernel
theorem dX1_isTaken_70 : decode cX1_isTaken 70 = .ok (.iload_n 2, 1) := by decide +kernel
theorem dX1_isTaken_71 : decode cX1_isTaken 71 = .ok (.iconst 0, 1) := by decide +kernel
theorem dX1_isTaken_72 : decode cX1_isTaken 72 = .ok (.iastore, 1) := by decide +kernel
theorem dX1_isTaken_73 : decode cX1_isTaken 73 = .ok (.aload_n 0, 1) := by decide +kernel
theorem dX1_isTaken_74 : decode cX1_isTaken 74 = .ok (.getfield 16, 3) := by decide +kernel
theorem dX1_isTaken_77 : decode cX1_isTaken 77 = .ok (.iload_n 2, 1) := by decide +kernel
theorem dX1_isTaken_78 : decode cX1_isTaken 78 = .ok (.iconst 0, 1) := by decide +kernel
theorem dX1_isTaken_79 : decode cX1_isTaken 79 = .ok (.iastore, 1) := by decide +kernel
theorem dX1_isTaken_80 : decode cX1_isTaken 80 = .ok (.aload_n 1, 1) := by decide +kernel
theorem dX1_isTaken_81 : decode cX1_isTaken 81 = .ok (.getfield 83, 3) := by decide +kernel
theorem dX1_isTaken_84 : decode cX1_isTaken 84 = .ok (.ifCond .eq 80, 3) := by decide +kernel
theorem dX1_isTaken_87 : decode cX1_isTaken 87 = .ok (.aload_n 0, 1) := by decide +kernel
theorem dX1_isTaken_88 : decode cX1_isTaken 88 = .ok (.getfield 13, 3) := by decide +kernel
theorem dX1_isTaken_91 : decode cX1_isTaken 91 = .ok (.iload_n 2, 1) := by decide +kernel
theorem dX1_isTaken_92 : decode cX1_isTaken 92 = .ok (.aload_n 1, 1) := by decide +kernel
theorem dX1_isTaken_93 : decode cX1_isTaken 93 = .ok (.getfield 83, 3) := by decide +kernel
theorem dX1_isTaken_96 : decode cX1_isTaken 96 = .ok (.iconst 1, 1) := by decide +kernel
theorem dX1_isTaken_97 : decode cX1_isTaken 97 = .ok (.if_icmp .ne 7, 3) := by decide +kernel
theorem dX1_isTaken_100 : decode cX1_isTaken 100 = .ok (.iconst 1, 1) := by decide +kernel
theorem dX1_isTaken_101 : decode cX1_isTaken 101 = .ok (.goto 4, 3) := by decide +kernel
theorem dX1_isTaken_104 : decode cX1_isTaken 104 = .ok (.iconst (-1), 1) := by decide +kernel
theorem dX1_isTaken_105 : decode cX1_isTaken 105 = .ok (.iastore, 1) := by decide +kernel
theorem dX1_isTaken_106 : decode cX1_isTaken 106 = .ok (.aload_n 0, 1) := by decide +kernel
theorem dX1_isTaken_107 : decode cX1_isTaken 107 = .ok (.getfield 16, 3) := by decide +kernel
theorem dX1_isTaken_110 : decode cX1_isTaken 110 = .ok (.iload_n 2, 1) := by decide +kernel
theorem dX1_isTaken_111 : decode cX1_isTaken 111 = .ok (.aload_n 1, 1) := by decide +kernel
theorem dX1_isTaken_112 : decode cX1_isTaken 112 = .ok (.iconst 2, 1) := by decide +kernel
theorem dX1_isTaken_113 : decode cX1_isTaken 113 = .ok (.invokevirtual 79, 3) := by decide +kernel
theorem dX1_isTaken_116 : decode cX1_isTaken 116 = .ok (.iastore, 1) := by decide +kernel
theorem dX1_isTaken_117 : decode cX1_isTaken 117 = .ok (.aload_n 0, 1) := by decide +kernel
theorem dX1_isTaken_118 : decode cX1_isTaken 118 = .ok (.getfield 29, 3) := by decide +kernel
theorem dX1_isTaken_121 : decode cX1_isTaken 121 = .ok (.aload_n 1, 1) := by decide +kernel
theorem dX1_isTaken_122 : decode cX1_isTaken 122 = .ok (.getfield 86, 3) := by decide +kernel
theorem dX1_isTaken_125 : decode cX1_isTaken 125 = .ok (.iconst 1, 1) := by decide +kernel
theorem dX1_isTaken_126 : decode cX1_isTaken 126 = .ok (.iaload, 1) := by decide +kernel
theorem dX1_isTaken_127 : decode cX1_isTaken 127 = .ok (.i2l, 1) := by decide +kernel
theorem dX1_isTaken_128 : decode cX1_isTaken 128 = .ok (.aload_n 1, 1) := by decide +kernel
theorem dX1_isTaken_129 : decode cX1_isTaken 129 = .ok (.getfield 88, 3) := by decide +kernel
theorem dX1_isTaken_132 : decode cX1_isTaken 132 = .ok (.iconst 1, 1) := by decide +kernel
theorem dX1_isTaken_133 : decode cX1_isTaken 133 = .ok (.iaload, 1) := by decide +kernel
theorem dX1_isTaken_134 : decode cX1_isTaken 134 = .ok (.i2l, 1) := by decide +kernel
theorem dX1_isTaken_135 : decode cX1_isTaken 135 = .ok (.invokevirtual 90, 3) := by decide +kernel
theorem dX1_isTaken_138 : decode cX1_isTaken 138 = .ok (.aload_n 0, 1) := by decide +kernel
theorem dX1_isTaken_139 : decode cX1_isTaken 139 = .ok (.getfield 19, 3) := by decide +kernel
theorem dX1_isTaken_142 : decode cX1_isTaken 142 = .ok (.iload_n 2, 1) := by decide +kernel
theorem dX1_isTaken_143 : decode cX1_isTaken 143 = .ok (.aload_n 0, 1) := by decide +kernel
theorem dX1_isTaken_144 : decode cX1_isTaken 144 = .ok (.getfield 29, 3) := by decide +kernel
theorem dX1_isTaken_147 : decode cX1_isTaken 147 = .ok (.getfield 94, 3) := by decide +kernel
theorem dX1_isTaken_150 : decode cX1_isTaken 150 = .ok (.lastore, 1) := by decide +kernel
theorem dX1_isTaken_151 : decode cX1_isTaken 151 = .ok (.aload_n 0, 1) := by decide +kernel
theorem dX1_isTaken_152 : decode cX1_isTaken 152 = .ok (.getfield 23, 3) := by decide +kernel
theorem dX1_isTaken_155 : decode cX1_isTaken 155 = .ok (.iload_n 2, 1) := by decide +kernel
theorem dX1_isTaken_156 : decode cX1_isTaken 156 = .ok (.aload_n 0, 1) := by decide +kernel
theorem dX1_isTaken_157 : decode cX1_isTaken 157 = .ok (.getfield 29, 3) := by decide +kernel
theorem dX1_isTaken_160 : decode cX1_isTaken 160 = .ok (.getfield 98, 3) := by decide +kernel
theorem dX1_isTaken_163 : decode cX1_isTaken 163 = .ok (.lastore, 1) := by decide +kernel
theorem dX1_isTaken_164 : decode cX1_isTaken 164 = .ok (.aload_n 0, 1) := by decide +kernel
theorem dX1_isTaken_165 : decode cX1_isTaken 165 = .ok (.iload_n 2, 1) := by decide +kernel
theorem dX1_isTaken_166 : decode cX1_isTaken 166 = .ok (.iconst 1, 1) := by decide +kernel
theorem dX1_isTaken_167 : decode cX1_isTaken 167 = .ok (.iadd, 1) := by decide +kernel
theorem dX1_isTaken_168 : decode cX1_isTaken 168 = .ok (.putfield 36, 3) := by decide +kernel
theorem dX1_isTaken_171 : decode cX1_isTaken 171 = .ok (.iconst 1, 1) := by decide +kernel
theorem dX1_isTaken_172 : decode cX1_isTaken 172 = .ok (.ireturn, 1) := by decide +kernel
theorem dX1_checkSums_0 : decode cX1_checkSums 0 = .ok (.iconst 0, 1) := by decide +kernel
theorem dX1_checkSums_1 : decode cX1_checkSums 1 = .ok (.istore_n 2, 1) := by decide +kernel
theorem dX1_checkSums_2 : decode cX1_checkSums 2 = .ok (.aload_n 0, 1) := by decide +kernel
theorem dX1_checkSums_3 : decode cX1_checkSums 3 = .ok (.getfield 33, 3) := by decide +kernel
theorem dX1_checkSums_6 : decode cX1_checkSums 6 = .ok (.lconst 0, 1) := by decide +kernel
theorem dX1_checkSums_7 : decode cX1_checkSums 7 = .ok (.lconst 1, 1) := by decide +kernel
theorem dX1_checkSums_8 : decode cX1_checkSums 8 = .ok (.invokevirtual 90, 3) := by decide +kernel
theorem dX1_checkSums_11 : decode cX1_checkSums 11 = .ok (.iconst 0, 1) := by decide +kernel
theorem dX1_checkSums_12 : decode cX1_checkSums 12 = .ok (.istore_n 3, 1) := by decide +kernel
theorem dX1_checkSums_13 : decode cX1_checkSums 13 = .ok (.iload_n 3, 1) := by decide +kernel
theorem dX1_checkSums_14 : decode cX1_checkSums 14 = .ok (.aload_n 0, 1) := by decide +kernel
theorem dX1_checkSums_15 : decode cX1_checkSums 15 = .ok (.getfield 36, 3) := by decide +kernel
theorem dX1_checkSums_18 : decode cX1_checkSums 18 = .ok (.if_icmp .ge 27, 3) := by decide +kernel
theorem dX1_checkSums_21 : decode cX1_checkSums 21 = .ok (.iload_n 2, 1) := by decide +kernel
theorem dX1_checkSums_22 : decode cX1_checkSums 22 = .ok (.aload_n 0, 1) := by decide +kernel
theorem dX1_checkSums_23 : decode cX1_checkSums 23 = .ok (.getfield 9, 3) := by decide +kernel
theorem dX1_checkSums_26 : decode cX1_checkSums 26 = .ok (.iload_n 3, 1) := by decide +kernel
theorem dX1_checkSums_27 : decode cX1_checkSums 27 = .ok (.iaload, 1) := by decide +kernel
theorem dX1_checkSums_28 : decode cX1_checkSums 28 = .ok (.iadd, 1) := by decide +kernel
theorem dX1_checkSums_29 : decode cX1_checkSums 29 = .ok (.istore_n 2, 1) := by decide +kernel
theorem dX1_checkSums_30 : decode cX1_checkSums 30 = .ok (.aload_n 0, 1) := by decide +kernel
theorem dX1_checkSums_31 : decode cX1_checkSums 31 = .ok (.iload_n 3, 1) := by decide +kernel
theorem dX1_checkSums_32 : decode cX1_checkSums 32 = .ok (.aload_n 0, 1) := by decide +kernel
theorem dX1_checkSums_33 : decode cX1_checkSums 33 = .ok (.getfield 33, 3) := by decide +kernel
theorem dX1_checkSums_36 : decode cX1_checkSums 36 = .ok (.invokevirtual 101, 3) := by decide +kernel
theorem dX1_checkSums_39 : decode cX1_checkSums 39 = .ok (.iinc 3 1, 3) := by decide +kernel
theorem dX1_checkSums_42 : decode cX1_checkSums 42 = .ok (.goto (-29), 3) := by decide +kernel
theorem dX1_checkSums_45 : decode cX1_checkSums 45 = .ok (.iload_n 2, 1) := by decide +kernel
theorem dX1_checkSums_46 : decode cX1_checkSums 46 = .ok (.sipush 360, 3) := by decide +kernel
theorem dX1_checkSums_49 : decode cX1_checkSums 49 = .ok (.if_icmp .eq 16, 3) := by decide +kernel
theorem dX1_checkSums_52 : decode cX1_checkSums 52 = .ok (.aload_n 1, 1) := by decide +kernel
theorem dX1_checkSums_53 : decode cX1_checkSums 53 = .ok (.bipush 7, 2) := by decide +kernel
theorem dX1_checkSums_55 : decode cX1_checkSums 55 = .ok (.aload_n 1, 1) := by decide +kernel
theorem dX1_checkSums_56 : decode cX1_checkSums 56 = .ok (.getfield 105, 3) := by decide +kernel
theorem dX1_checkSums_59 : decode cX1_checkSums 59 = .ok (.invokevirtual 65, 3) := by decide +kernel
theorem dX1_checkSums_62 : decode cX1_checkSums 62 = .ok (.goto 35, 3) := by decide +kernel
theorem dX1_checkSums_65 : decode cX1_checkSums 65 = .ok (.aload_n 0, 1) := by decide +kernel
theorem dX1_checkSums_66 : decode cX1_checkSums 66 = .ok (.getfield 33, 3) := by decide +kernel
theorem dX1_checkSums_69 : decode cX1_checkSums 69 = .ok (.getfield 108, 3) := by decide +kernel
theorem dX1_checkSums_72 : decode cX1_checkSums 72 = .ok (.ifCond .ne 15, 3) := by decide +kernel
theorem dX1_checkSums_75 : decode cX1_checkSums 75 = .ok (.aload_n 0, 1) := by decide +kernel
theorem dX1_checkSums_76 : decode cX1_checkSums 76 = .ok (.getfield 33, 3) := by decide +kernel
theorem dX1_checkSums_79 : decode cX1_checkSums 79 = .ok (.getfield 94, 3) := by decide +kernel
theorem dX1_checkSums_82 : decode cX1_checkSums 82 = .ok (.lconst 0, 1) := by decide +kernel
theorem dX1_checkSums_83 : decode cX1_checkSums 83 = .ok (.lcmp, 1) := by decide +kernel
theorem dX1_checkSums_84 : decode cX1_checkSums 84 = .ok (.ifCond .eq 13, 3) := by decide +kernel
theorem dX1_checkSums_87 : decode cX1_checkSums 87 = .ok (.aload_n 1, 1) := by decide +kernel
theorem dX1_checkSums_88 : decode cX1_checkSums 88 = .ok (.bipush 8, 2) := by decide +kernel
theorem dX1_checkSums_90 : decode cX1_checkSums 90 = .ok (.aload_n 1, 1) := by decide +kernel
theorem dX1_checkSums_91 : decode cX1_checkSums 91 = .ok (.getfield 105, 3) := by decide +kernel
theorem dX1_checkSums_94 : decode cX1_checkSums 94 = .ok (.invokevirtual 65, 3) := by decide +kernel
theorem dX1_checkSums_97 : decode cX1_checkSums 97 = .ok (.return_, 1) := by decide +kernel
theorem dX1_addWhole_0 : decode cX1_addWhole 0 = .ok (.aload_n 0, 1) := by decide +kernel
theorem dX1_addWhole_1 : decode cX1_addWhole 1 = .ok (.getfield 13, 3) := by decide +kernel
theorem dX1_addWhole_4 : decode cX1_addWhole 4 = .ok (.iload_n 1, 1) := by decide +kernel
theorem dX1_addWhole_5 : decode cX1_addWhole 5 = .ok (.iaload, 1) := by decide +kernel
theorem dX1_addWhole_6 : decode cX1_addWhole 6 = .ok (.ifCond .eq 27, 3) := by decide +kernel
theorem dX1_addWhole_9 : decode cX1_addWhole 9 = .ok (.aload_n 2, 1) := by decide +kernel
theorem dX1_addWhole_10 : decode cX1_addWhole 10 = .ok (.aload_n 0, 1) := by decide +kernel
theorem dX1_addWhole_11 : decode cX1_addWhole 11 = .ok (.getfield 13, 3) := by decide +kernel
theorem dX1_addWhole_14 : decode cX1_addWhole 14 = .ok (.iload_n 1, 1) := by decide +kernel
theorem dX1_addWhole_15 : decode cX1_addWhole 15 = .ok (.iaload, 1) := by decide +kernel
theorem dX1_addWhole_16 : decode cX1_addWhole 16 = .ok (.i2l, 1) := by decide +kernel
theorem dX1_addWhole_17 : decode cX1_addWhole 17 = .ok (.aload_n 0, 1) := by decide +kernel
theorem dX1_addWhole_18 : decode cX1_addWhole 18 = .ok (.getfield 19, 3) := by decide +kernel
theorem dX1_addWhole_21 : decode cX1_addWhole 21 = .ok (.iload_n 1, 1) := by decide +kernel
theorem dX1_addWhole_22 : decode cX1_addWhole 22 = .ok (.laload, 1) := by decide +kernel
theorem dX1_addWhole_23 : decode cX1_addWhole 23 = .ok (.lmul, 1) := by decide +kernel
theorem dX1_addWhole_24 : decode cX1_addWhole 24 = .ok (.aload_n 0, 1) := by decide +kernel
theorem dX1_addWhole_25 : decode cX1_addWhole 25 = .ok (.getfield 23, 3) := by decide +kernel
theorem dX1_addWhole_28 : decode cX1_addWhole 28 = .ok (.iload_n 1, 1) := by decide +kernel
theorem dX1_addWhole_29 : decode cX1_addWhole 29 = .ok (.laload, 1) := by decide +kernel
theorem dX1_addWhole_30 : decode cX1_addWhole 30 = .ok (.invokevirtual 112, 3) := by decide +kernel
theorem dX1_addWhole_33 : decode cX1_addWhole 33 = .ok (.return_, 1) := by decide +kernel
theorem dX1_reckonLift_0 : decode cX1_reckonLift 0 = .ok (.lconst 0, 1) := by decide +kernel
theorem dX1_reckonLift_1 : decode cX1_reckonLift 1 = .ok (.lstore 6, 2) := by decide +kernel
theorem dX1_reckonLift_3 : decode cX1_reckonLift 3 = .ok (.aload 5, 2) := by decide +kernel
theorem dX1_reckonLift_5 : decode cX1_reckonLift 5 = .ok (.lconst 0, 1) := by decide +kernel
theorem dX1_reckonLift_6 : decode cX1_reckonLift 6 = .ok (.lconst 1, 1) := by decide +kernel
theorem dX1_reckonLift_7 : decode cX1_reckonLift 7 = .ok (.invokevirtual 90, 3) := by decide +kernel
theorem dX1_reckonLift_10 : decode cX1_reckonLift 10 = .ok (.iconst 0, 1) := by decide +kernel
theorem dX1_reckonLift_11 : decode cX1_reckonLift 11 = .ok (.istore 8, 2) := by decide +kernel
theorem dX1_reckonLift_13 : decode cX1_reckonLift 13 = .ok (.iload 8, 2) := by decide +kernel
theorem dX1_reckonLift_15 : decode cX1_reckonLift 15 = .ok (.aload_n 0, 1) := by decide +kernel
theorem dX1_reckonLift_16 : decode cX1_reckonLift 16 = .ok (.getfield 36, 3) := by decide +kernel
theorem dX1_reckonLift_19 : decode cX1_reckonLift 19 = .ok (.if_icmp .ge 64, 3) := by decide +kernel
theorem dX1_reckonLift_22 : decode cX1_reckonLift 22 = .ok (.lload_n 1, 1) := by decide +kernel
theorem dX1_reckonLift_23 : decode cX1_reckonLift 23 = .ok (.lload 6, 2) := by decide +kernel
theorem dX1_reckonLift_25 : decode cX1_reckonLift 25 = .ok (.aload_n 0, 1) := by decide +kernel
theorem dX1_reckonLift_26 : decode cX1_reckonLift 26 = .ok (.getfield 9, 3) := by decide +kernel
theorem dX1_reckonLift_29 : decode cX1_reckonLift 29 = .ok (.iload 8, 2) := by decide +kernel
theorem dX1_reckonLift_31 : decode cX1_reckonLift 31 = .ok (.iaload, 1) := by decide +kernel
theorem dX1_reckonLift_32 : decode cX1_reckonLift 32 = .ok (.i2l, 1) := by decide +kernel
theorem dX1_reckonLift_33 : decode cX1_reckonLift 33 = .ok (.ladd, 1) := by decide +kernel
theorem dX1_reckonLift_34 : decode cX1_reckonLift 34 = .ok (.lload_n 3, 1) := by decide +kernel
theorem dX1_reckonLift_35 : decode cX1_reckonLift 35 = .ok (.lmul, 1) := by decide +kernel
theorem dX1_reckonLift_36 : decode cX1_reckonLift 36 = .ok (.lcmp, 1) := by decide +kernel
theorem dX1_reckonLift_37 : decode cX1_reckonLift 37 = .ok (.ifCond .ge 19, 3) := by decide +kernel
theorem dX1_reckonLift_40 : decode cX1_reckonLift 40 = .ok (.aload_n 0, 1) := by decide +kernel
theorem dX1_reckonLift_41 : decode cX1_reckonLift 41 = .ok (.iload 8, 2) := by decide +kernel
theorem dX1_reckonLift_43 : decode cX1_reckonLift 43 = .ok (.lload_n 1, 1) := by decide +kernel
theorem dX1_reckonLift_44 : decode cX1_reckonLift 44 = .ok (.lload 6, 2) := by decide +kernel
theorem dX1_reckonLift_46 : decode cX1_reckonLift 46 = .ok (.lload_n 3, 1) := by decide +kernel
theorem dX1_reckonLift_47 : decode cX1_reckonLift 47 = .ok (.lmul, 1) := by decide +kernel
theorem dX1_reckonLift_48 : decode cX1_reckonLift 48 = .ok (.lsub, 1) := by decide +kernel
theorem dX1_reckonLift_49 : decode cX1_reckonLift 49 = .ok (.lload_n 3, 1) := by decide +kernel
theorem dX1_reckonLift_50 : decode cX1_reckonLift 50 = .ok (.aload 5, 2) := by decide +kernel
theorem dX1_reckonLift_52 : decode cX1_reckonLift 52 = .ok (.invokevirtual 115, 3) := by decide +kernel
theorem dX1_reckonLift_55 : decode cX1_reckonLift 55 = .ok (.return_, 1) := by decide +kernel
theorem dX1_reckonLift_56 : decode cX1_reckonLift 56 = .ok (.aload_n 0, 1) := by decide +kernel
theorem dX1_reckonLift_57 : decode cX1_reckonLift 57 = .ok (.iload 8, 2) := by decide +kernel
theorem dX1_reckonLift_59 : decode cX1_reckonLift 59 = .ok (.aload 5, 2) := by decide +kernel
theorem dX1_reckonLift_61 : decode cX1_reckonLift 61 = .ok (.invokevirtual 101, 3) := by decide +kernel
theorem dX1_reckonLift_64 : decode cX1_reckonLift 64 = .ok (.lload 6, 2) := by decide +kernel
theorem dX1_reckonLift_66 : decode cX1_reckonLift 66 = .ok (.aload_n 0, 1) := by decide +kernel
theorem dX1_reckonLift_67 : decode cX1_reckonLift 67 = .ok (.getfield 9, 3) := by decide +kernel
theorem dX1_reckonLift_70 : decode cX1_reckonLift 70 = .ok (.iload 8, 2) := by decide +kernel
theorem dX1_reckonLift_72 : decode cX1_reckonLift 72 = .ok (.iaload, 1) := by decide +kernel
theorem dX1_reckonLift_73 : decode cX1_reckonLift 73 = .ok (.i2l, 1) := by decide +kernel
theorem dX1_reckonLift_74 : decode cX1_reckonLift 74 = .ok (.ladd, 1) := by decide +kernel
theorem dX1_reckonLift_75 : decode cX1_reckonLift 75 = .ok (.lstore 6, 2) := by decide +kernel
theorem dX1_reckonLift_77 : decode cX1_reckonLift 77 = .ok (.iinc 8 1, 3) := by decide +kernel
theorem dX1_reckonLift_80 : decode cX1_reckonLift 80 = .ok (.goto (-67), 3) := by decide +kernel
theorem dX1_reckonLift_83 : decode cX1_reckonLift 83 = .ok (.return_, 1) := by decide +kernel
theorem dX1_addPart_0 : decode cX1_addPart 0 = .ok (.aload_n 0, 1) := by decide +kernel
theorem dX1_addPart_1 : decode cX1_addPart 1 = .ok (.getfield 13, 3) := by decide +kernel
theorem dX1_addPart_4 : decode cX1_addPart 4 = .ok (.iload_n 1, 1) := by decide +kernel
theorem dX1_addPart_5 : decode cX1_addPart 5 = .ok (.iaload, 1) := by decide +kernel
theorem dX1_addPart_6 : decode cX1_addPart 6 = .ok (.ifCond .ne 4, 3) := by decide +kernel
theorem dX1_addPart_9 : decode cX1_addPart 9 = .ok (.return_, 1) := by decide +kernel
theorem dX1_addPart_10 : decode cX1_addPart 10 = .ok (.aload_n 0, 1) := by decide +kernel
theorem dX1_addPart_11 : decode cX1_addPart 11 = .ok (.getfield 29, 3) := by decide +kernel
theorem dX1_addPart_14 : decode cX1_addPart 14 = .ok (.lload_n 2, 1) := by decide +kernel
theorem dX1_addPart_15 : decode cX1_addPart 15 = .ok (.lload 4, 2) := by decide +kernel
theorem dX1_addPart_17 : decode cX1_addPart 17 = .ok (.invokevirtual 90, 3) := by decide +kernel
theorem dX1_addPart_20 : decode cX1_addPart 20 = .ok (.aload_n 0, 1) := by decide +kernel
theorem dX1_addPart_21 : decode cX1_addPart 21 = .ok (.getfield 29, 3) := by decide +kernel
theorem dX1_addPart_24 : decode cX1_addPart 24 = .ok (.lconst 1, 1) := by decide +kernel
theorem dX1_addPart_25 : decode cX1_addPart 25 = .ok (.aload_n 0, 1) := by decide +kernel
theorem dX1_addPart_26 : decode cX1_addPart 26 = .ok (.getfield 9, 3) := by decide +kernel
theorem dX1_addPart_29 : decode cX1_addPart 29 = .ok (.iload_n 1, 1) := by decide +kernel
theorem dX1_addPart_30 : decode cX1_addPart 30 = .ok (.iaload, 1) := by decide +kernel
theorem dX1_addPart_31 : decode cX1_addPart 31 = .ok (.i2l, 1) := by decide +kernel
theorem dX1_addPart_32 : decode cX1_addPart 32 = .ok (.invokevirtual 119, 3) := by decide +kernel
theorem dX1_addPart_35 : decode cX1_addPart 35 = .ok (.aload_n 0, 1) := by decide +kernel
theorem dX1_addPart_36 : decode cX1_addPart 36 = .ok (.getfield 16, 3) := by decide +kernel
theorem dX1_addPart_39 : decode cX1_addPart 39 = .ok (.iload_n 1, 1) := by decide +kernel
theorem dX1_addPart_40 : decode cX1_addPart 40 = .ok (.iaload, 1) := by decide +kernel
theorem dX1_addPart_41 : decode cX1_addPart 41 = .ok (.tableswitch 48 2 4 #[27, 34, 41], 27) := by decide +kernel
theorem dX1_addPart_68 : decode cX1_addPart 68 = .ok (.aload_n 0, 1) := by decide +kernel
theorem dX1_addPart_69 : decode cX1_addPart 69 = .ok (.invokevirtual 122, 3) := by decide +kernel
theorem dX1_addPart_72 : decode cX1_addPart 72 = .ok (.goto 28, 3) := by decide +kernel
theorem dX1_addPart_75 : decode cX1_addPart 75 = .ok (.aload_n 0, 1) := by decide +kernel
theorem dX1_addPart_76 : decode cX1_addPart 76 = .ok (.invokevirtual 125, 3) := by decide +kernel
theorem dX1_addPart_79 : decode cX1_addPart 79 = .ok (.goto 21, 3) := by decide +kernel
theorem dX1_addPart_82 : decode cX1_addPart 82 = .ok (.aload_n 0, 1) := by decide +kernel
theorem dX1_addPart_83 : decode cX1_addPart 83 = .ok (.invokevirtual 128, 3) := by decide +kernel
theorem dX1_addPart_86 : decode cX1_addPart 86 = .ok (.goto 14, 3) := by decide +kernel
theorem dX1_addPart_89 : decode cX1_addPart 89 = .ok (.aload_n 0, 1) := by decide +kernel
theorem dX1_addPart_90 : decode cX1_addPart 90 = .ok (.getfield 33, 3) := by decide +kernel
theorem dX1_addPart_93 : decode cX1_addPart 93 = .ok (.aload_n 0, 1) := by decide +kernel
theorem dX1_addPart_94 : decode cX1_addPart 94 = .ok (.getfield 29, 3) := by decide +kernel
theorem dX1_addPart_97 : decode cX1_addPart 97 = .ok (.invokevirtual 131, 3) := by decide +kernel
theorem dX1_addPart_100 : decode cX1_addPart 100 = .ok (.aload_n 0, 1) := by decide +kernel
theorem dX1_addPart_101 : decode cX1_addPart 101 = .ok (.getfield 33, 3) := by decide +kernel
theorem dX1_addPart_104 : decode cX1_addPart 104 = .ok (.aload_n 0, 1) := by decide +kernel
theorem dX1_addPart_105 : decode cX1_addPart 105 = .ok (.getfield 19, 3) := by decide +kernel
theorem dX1_addPart_108 : decode cX1_addPart 108 = .ok (.iload_n 1, 1) := by decide +kernel
theorem dX1_addPart_109 : decode cX1_addPart 109 = .ok (.laload, 1) := by decide +kernel
theorem dX1_addPart_110 : decode cX1_addPart 110 = .ok (.aload_n 0, 1) := by decide +kernel
theorem dX1_addPart_111 : decode cX1_addPart 111 = .ok (.getfield 23, 3) := by decide +kernel
theorem dX1_addPart_114 : decode cX1_addPart 114 = .ok (.iload_n 1, 1) := by decide +kernel
theorem dX1_addPart_115 : decode cX1_addPart 115 = .ok (.laload, 1) := by decide +kernel
theorem dX1_addPart_116 : decode cX1_addPart 116 = .ok (.invokevirtual 119, 3) := by decide +kernel
theorem dX1_addPart_119 : decode cX1_addPart 119 = .ok (.aload 6, 2) := by decide +kernel
theorem dX1_addPart_121 : decode cX1_addPart 121 = .ok (.aload_n 0, 1) := by decide +kernel
theorem dX1_addPart_122 : decode cX1_addPart 122 = .ok (.getfield 13, 3) := by decide +kernel
theorem dX1_addPart_125 : decode cX1_addPart 125 = .ok (.iload_n 1, 1) := by decide +kernel
theorem dX1_addPart_126 : decode cX1_addPart 126 = .ok (.iaload, 1) := by decide +kernel
theorem dX1_addPart_127 : decode cX1_addPart 127 = .ok (.i2l, 1) := by decide +kernel
theorem dX1_addPart_128 : decode cX1_addPart 128 = .ok (.aload_n 0, 1) := by decide +kernel
theorem dX1_addPart_129 : decode cX1_addPart 129 = .ok (.getfield 33, 3) := by decide +kernel
theorem dX1_addPart_132 : decode cX1_addPart 132 = .ok (.getfield 94, 3) := by decide +kernel
theorem dX1_addPart_135 : decode cX1_addPart 135 = .ok (.lmul, 1) := by decide +kernel
theorem dX1_addPart_136 : decode cX1_addPart 136 = .ok (.aload_n 0, 1) := by decide +kernel
theorem dX1_addPart_137 : decode cX1_addPart 137 = .ok (.getfield 33, 3) := by decide +kernel
theorem dX1_addPart_140 : decode cX1_addPart 140 = .ok (.getfield 98, 3) := by decide +kernel
theorem dX1_addPart_143 : decode cX1_addPart 143 = .ok (.invokevirtual 112, 3) := by decide +kernel
theorem dX1_addPart_146 : decode cX1_addPart 146 = .ok (.aload_n 0, 1) := by decide +kernel
theorem dX1_addPart_147 : decode cX1_addPart 147 = .ok (.getfield 33, 3) := by decide +kernel
theorem dX1_addPart_150 : decode cX1_addPart 150 = .ok (.getfield 108, 3) := by decide +kernel
theorem dX1_addPart_153 : decode cX1_addPart 153 = .ok (.ifCond .eq 9, 3) := by decide +kernel
theorem dX1_addPart_156 : decode cX1_addPart 156 = .ok (.aload 6, 2) := by decide +kernel
theorem dX1_addPart_158 : decode cX1_addPart 158 = .ok (.iconst 1, 1) := by decide +kernel
theorem dX1_addPart_159 : decode cX1_addPart 159 = .ok (.putfield 108, 3) := by decide +kernel
theorem dX1_addPart_162 : decode cX1_addPart 162 = .ok (.return_, 1) := by decide +kernel
theorem dX1_reckonParabola_0 : decode cX1_reckonParabola 0 = .ok (.ldc2_w 135, 3) := by decide +kernel
theorem dX1_reckonParabola_3 : decode cX1_reckonParabola 3 = .ok (.aload_n 0, 1) := by decide +kernel
theorem dX1_reckonParabola_4 : decode cX1_reckonParabola 4 = .ok (.getfield 29, 3) := by decide +kernel
theorem dX1_reckonParabola_7 : decode cX1_reckonParabola 7 = .ok (.getfield 94, 3) := by decide +kernel
theorem dX1_reckonParabola_10 : decode cX1_reckonParabola 10 = .ok (.lmul, 1) := by decide +kernel
theorem dX1_reckonParabola_11 : decode cX1_reckonParabola 11 = .ok (.aload_n 0, 1) := by decide +kernel
theorem dX1_reckonParabola_12 : decode cX1_reckonParabola 12 = .ok (.getfield 29, 3) := by decide +kernel
theorem dX1_reckonParabola_15 : decode cX1_reckonParabola 15 = .ok (.getfield 98, 3) := by decide +kernel
theorem dX1_reckonParabola_18 : decode cX1_reckonParabola 18 = .ok (.lcmp, 1) := by decide +kernel
theorem dX1_reckonParabola_19 : decode cX1_reckonParabola 19 = .ok (.ifCond .le 7, 3) := by decide +kernel
theorem dX1_reckonParabola_22 : decode cX1_reckonParabola 22 = .ok (.iconst 1, 1) := by decide +kernel
theorem dX1_reckonParabola_23 : decode cX1_reckonParabola 23 = .ok (.goto 4, 3) := by decide +kernel
theorem dX1_reckonParabola_26 : decode cX1_reckonParabola 26 = .ok (.iconst 0, 1) := by decide +kernel
theorem dX1_reckonParabola_27 : decode cX1_reckonParabola 27 = .ok (.istore_n 1, 1) := by decide +kernel
theorem dX1_reckonParabola_28 : decode cX1_reckonParabola 28 = .ok (.iload_n 1, 1) := by decide +kernel
theorem dX1_reckonParabola_29 : decode cX1_reckonParabola 29 = .ok (.ifCond .eq 27, 3) := by decide +kernel
theorem dX1_reckonParabola_32 : decode cX1_reckonParabola 32 = .ok (.aload_n 0, 1) := by decide +kernel
theorem dX1_reckonParabola_33 : decode cX1_reckonParabola 33 = .ok (.getfield 29, 3) := by decide +kernel
theorem dX1_reckonParabola_36 : decode cX1_reckonParabola 36 = .ok (.aload_n 0, 1) := by decide +kernel
theorem dX1_reckonParabola_37 : decode cX1_reckonParabola 37 = .ok (.getfield 29, 3) := by decide +kernel
theorem dX1_reckonParabola_40 : decode cX1_reckonParabola 40 = .ok (.getfield 94, 3) := by decide +kernel
theorem dX1_reckonParabola_43 : decode cX1_reckonParabola 43 = .ok (.lneg, 1) := by decide +kernel
theorem dX1_reckonParabola_44 : decode cX1_reckonParabola 44 = .ok (.putfield 94, 3) := by decide +kernel
theorem dX1_reckonParabola_47 : decode cX1_reckonParabola 47 = .ok (.aload_n 0, 1) := by decide +kernel
theorem dX1_reckonParabola_48 : decode cX1_reckonParabola 48 = .ok (.getfield 29, 3) := by decide +kernel
theorem dX1_reckonParabola_51 : decode cX1_reckonParabola 51 = .ok (.lconst 1, 1) := by decide +kernel
theorem dX1_reckonParabola_52 : decode cX1_reckonParabola 52 = .ok (.lconst 1, 1) := by decide +kernel
theorem dX1_reckonParabola_53 : decode cX1_reckonParabola 53 = .ok (.invokevirtual 112, 3) := by decide +kernel
theorem dX1_reckonParabola_56 : decode cX1_reckonParabola 56 = .ok (.aload_n 0, 1) := by decide +kernel
theorem dX1_reckonParabola_57 : decode cX1_reckonParabola 57 = .ok (.getfield 33, 3) := by decide +kernel
theorem dX1_reckonParabola_60 : decode cX1_reckonParabola 60 = .ok (.ldc2_w 135, 3) := by decide +kernel
theorem dX1_reckonParabola_63 : decode cX1_reckonParabola 63 = .ok (.lconst 1, 1) := by decide +kernel
theorem dX1_reckonParabola_64 : decode cX1_reckonParabola 64 = .ok (.invokevirtual 90, 3) := by decide +kernel
theorem dX1_reckonParabola_67 : decode cX1_reckonParabola 67 = .ok (.aload_n 0, 1) := by decide +kernel
theorem dX1_reckonParabola_68 : decode cX1_reckonParabola 68 = .ok (.iconst 2, 1) := by decide +kernel
theorem dX1_reckonParabola_69 : decode cX1_reckonParabola 69 = .ok (.invokevirtual 137, 3) := by decide +kernel
theorem dX1_reckonParabola_72 : decode cX1_reckonParabola 72 = .ok (.iload_n 1, 1) := by decide +kernel
theorem dX1_reckonParabola_73 : decode cX1_reckonParabola 73 = .ok (.ifCond .eq 27, 3) := by decide +kernel
theorem dX1_reckonParabola_76 : decode cX1_reckonParabola 76 = .ok (.aload_n 0, 1) := by decide +kernel
theorem dX1_reckonParabola_77 : decode cX1_reckonParabola 77 = .ok (.getfield 33, 3) := by decide +kernel
theorem dX1_reckonParabola_80 : decode cX1_reckonParabola 80 = .ok (.aload_n 0, 1) := by decide +kernel
theorem dX1_reckonParabola_81 : decode cX1_reckonParabola 81 = .ok (.getfield 33, 3) := by decide +kernel
theorem dX1_reckonParabola_84 : decode cX1_reckonParabola 84 = .ok (.getfield 94, 3) := by decide +kernel
theorem dX1_reckonParabola_87 : decode cX1_reckonParabola 87 = .ok (.lneg, 1) := by decide +kernel
theorem dX1_reckonParabola_88 : decode cX1_reckonParabola 88 = .ok (.putfield 94, 3) := by decide +kernel
theorem dX1_reckonParabola_91 : decode cX1_reckonParabola 91 = .ok (.aload_n 0, 1) := by decide +kernel
theorem dX1_reckonParabola_92 : decode cX1_reckonParabola 92 = .ok (.getfield 33, 3) := by decide +kernel
theorem dX1_reckonParabola_95 : decode cX1_reckonParabola 95 = .ok (.lconst 1, 1) := by decide +kernel
theorem dX1_reckonParabola_96 : decode cX1_reckonParabola 96 = .ok (.lconst 1, 1) := by decide +kernel
theorem dX1_reckonParabola_97 : decode cX1_reckonParabola 97 = .ok (.invokevirtual 112, 3) := by decide +kernel
theorem dX1_reckonParabola_100 : decode cX1_reckonParabola 100 = .ok (.return_, 1) := by decide +kernel
theorem dX1_reckonFifth_0 : decode cX1_reckonFifth 0 = .ok (.aload_n 0, 1) := by decide +kernel
theorem dX1_reckonFifth_1 : decode cX1_reckonFifth 1 = .ok (.getfield 33, 3) := by decide +kernel
theorem dX1_reckonFifth_4 : decode cX1_reckonFifth 4 = .ok (.ldc2_w 141, 3) := by decide +kernel
theorem dX1_reckonFifth_7 : decode cX1_reckonFifth 7 = .ok (.lconst 1, 1) := by decide +kernel
theorem dX1_reckonFifth_8 : decode cX1_reckonFifth 8 = .ok (.invokevirtual 90, 3) := by decide +kernel
theorem dX1_reckonFifth_11 : decode cX1_reckonFifth 11 = .ok (.aload_n 0, 1) := by decide +kernel
theorem dX1_reckonFifth_12 : decode cX1_reckonFifth 12 = .ok (.iconst 1, 1) := by decide +kernel
theorem dX1_reckonFifth_13 : decode cX1_reckonFifth 13 = .ok (.invokevirtual 137, 3) := by decide +kernel
theorem dX1_reckonFifth_16 : decode cX1_reckonFifth 16 = .ok (.aload_n 0, 1) := by decide +kernel
theorem dX1_reckonFifth_17 : decode cX1_reckonFifth 17 = .ok (.getfield 33, 3) := by decide +kernel
theorem dX1_reckonFifth_20 : decode cX1_reckonFifth 20 = .ok (.ldc2_w 143, 3) := by decide +kernel
theorem dX1_reckonFifth_23 : decode cX1_reckonFifth 23 = .ok (.lconst 1, 1) := by decide +kernel
theorem dX1_reckonFifth_24 : decode cX1_reckonFifth 24 = .ok (.invokevirtual 112, 3) := by decide +kernel
theorem dX1_reckonFifth_27 : decode cX1_reckonFifth 27 = .ok (.aload_n 0, 1) := by decide +kernel
theorem dX1_reckonFifth_28 : decode cX1_reckonFifth 28 = .ok (.iconst 1, 1) := by decide +kernel
theorem dX1_reckonFifth_29 : decode cX1_reckonFifth 29 = .ok (.invokevirtual 137, 3) := by decide +kernel
theorem dX1_reckonFifth_32 : decode cX1_reckonFifth 32 = .ok (.aload_n 0, 1) := by decide +kernel
theorem dX1_reckonFifth_33 : decode cX1_reckonFifth 33 = .ok (.getfield 33, 3) := by decide +kernel
theorem dX1_reckonFifth_36 : decode cX1_reckonFifth 36 = .ok (.ldc2_w 145, 3) := by decide +kernel
theorem dX1_reckonFifth_39 : decode cX1_reckonFifth 39 = .ok (.lconst 1, 1) := by decide +kernel
theorem dX1_reckonFifth_40 : decode cX1_reckonFifth 40 = .ok (.invokevirtual 112, 3) := by decide +kernel
theorem dX1_reckonFifth_43 : decode cX1_reckonFifth 43 = .ok (.aload_n 0, 1) := by decide +kernel
theorem dX1_reckonFifth_44 : decode cX1_reckonFifth 44 = .ok (.iconst 3, 1) := by decide +kernel
theorem dX1_reckonFifth_45 : decode cX1_reckonFifth 45 = .ok (.invokevirtual 137, 3) := by decide +kernel
theorem dX1_reckonFifth_48 : decode cX1_reckonFifth 48 = .ok (.return_, 1) := by decide +kernel
theorem dX1_reckonSeventh_0 : decode cX1_reckonSeventh 0 = .ok (.aload_n 0, 1) := by decide +kernel
theorem dX1_reckonSeventh_1 : decode cX1_reckonSeventh 1 = .ok (.getfield 33, 3) := by decide +kernel
theorem dX1_reckonSeventh_4 : decode cX1_reckonSeventh 4 = .ok (.ldc2_w 147, 3) := by decide +kernel
theorem dX1_reckonSeventh_7 : decode cX1_reckonSeventh 7 = .ok (.lconst 1, 1) := by decide +kernel
theorem dX1_reckonSeventh_8 : decode cX1_reckonSeventh 8 = .ok (.invokevirtual 90, 3) := by decide +kernel
theorem dX1_reckonSeventh_11 : decode cX1_reckonSeventh 11 = .ok (.aload_n 0, 1) := by decide +kernel
theorem dX1_reckonSeventh_12 : decode cX1_reckonSeventh 12 = .ok (.iconst 1, 1) := by decide +kernel
theorem dX1_reckonSeventh_13 : decode cX1_reckonSeventh 13 = .ok (.invokevirtual 137, 3) := by decide +kernel
theorem dX1_reckonSeventh_16 : decode cX1_reckonSeventh 16 = .ok (.aload_n 0, 1) := by decide +kernel
theorem dX1_reckonSeventh_17 : decode cX1_reckonSeventh 17 = .ok (.getfield 33, 3) := by decide +kernel
theorem dX1_reckonSeventh_20 : decode cX1_reckonSeventh 20 = .ok (.ldc2_w 149, 3) := by decide +kernel
theorem dX1_reckonSeventh_23 : decode cX1_reckonSeventh 23 = .ok (.lconst 1, 1) := by decide +kernel
theorem dX1_reckonSeventh_24 : decode cX1_reckonSeventh 24 = .ok (.invokevirtual 112, 3) := by decide +kernel
theorem dX1_reckonSeventh_27 : decode cX1_reckonSeventh 27 = .ok (.aload_n 0, 1) := by decide +kernel
theorem dX1_reckonSeventh_28 : decode cX1_reckonSeventh 28 = .ok (.iconst 1, 1) := by decide +kernel
theorem dX1_reckonSeventh_29 : decode cX1_reckonSeventh 29 = .ok (.invokevirtual 137, 3) := by decide +kernel
theorem dX1_reckonSeventh_32 : decode cX1_reckonSeventh 32 = .ok (.aload_n 0, 1) := by decide +kernel
theorem dX1_reckonSeventh_33 : decode cX1_reckonSeventh 33 = .ok (.getfield 33, 3) := by decide +kernel
theorem dX1_reckonSeventh_36 : decode cX1_reckonSeventh 36 = .ok (.ldc2_w 151, 3) := by decide +kernel
theorem dX1_reckonSeventh_39 : decode cX1_reckonSeventh 39 = .ok (.lconst 1, 1) := by decide +kernel
theorem dX1_reckonSeventh_40 : decode cX1_reckonSeventh 40 = .ok (.invokevirtual 112, 3) := by decide +kernel
theorem dX1_reckonSeventh_43 : decode cX1_reckonSeventh 43 = .ok (.aload_n 0, 1) := by decide +kernel
theorem dX1_reckonSeventh_44 : decode cX1_reckonSeventh 44 = .ok (.iconst 1, 1) := by decide +kernel
theorem dX1_reckonSeventh_45 : decode cX1_reckonSeventh 45 = .ok (.invokevirtual 137, 3) := by decide +kernel
theorem dX1_reckonSeventh_48 : decode cX1_reckonSeventh 48 = .ok (.aload_n 0, 1) := by decide +kernel
theorem dX1_reckonSeventh_49 : decode cX1_reckonSeventh 49 = .ok (.getfield 33, 3) := by decide +kernel
theorem dX1_reckonSeventh_52 : decode cX1_reckonSeventh 52 = .ok (.ldc2_w 153, 3) := by decide +kernel
theorem dX1_reckonSeventh_55 : decode cX1_reckonSeventh 55 = .ok (.lconst 1, 1) := by decide +kernel
theorem dX1_reckonSeventh_56 : decode cX1_reckonSeventh 56 = .ok (.invokevirtual 112, 3) := by decide +kernel
theorem dX1_reckonSeventh_59 : decode cX1_reckonSeventh 59 = .ok (.aload_n 0, 1) := by decide +kernel
theorem dX1_reckonSeventh_60 : decode cX1_reckonSeventh 60 = .ok (.iconst 4, 1) := by decide +kernel
theorem dX1_reckonSeventh_61 : decode cX1_reckonSeventh 61 = .ok (.invokevirtual 137, 3) := by decide +kernel
theorem dX1_reckonSeventh_64 : decode cX1_reckonSeventh 64 = .ok (.return_, 1) := by decide +kernel
theorem dX1_climb_0 : decode cX1_climb 0 = .ok (.iconst 0, 1) := by decide +kernel
theorem dX1_climb_1 : decode cX1_climb 1 = .ok (.istore_n 2, 1) := by decide +kernel
theorem dX1_climb_2 : decode cX1_climb 2 = .ok (.iload_n 2, 1) := by decide +kernel
theorem dX1_climb_3 : decode cX1_climb 3 = .ok (.iload_n 1, 1) := by decide +kernel
theorem dX1_climb_4 : decode cX1_climb 4 = .ok (.if_icmp .ge 30, 3) := by decide +kernel
theorem dX1_climb_7 : decode cX1_climb 7 = .ok (.aload_n 0, 1) := by decide +kernel
theorem dX1_climb_8 : decode cX1_climb 8 = .ok (.getfield 33, 3) := by decide +kernel
theorem dX1_climb_11 : decode cX1_climb 11 = .ok (.aload_n 0, 1) := by decide +kernel
theorem dX1_climb_12 : decode cX1_climb 12 = .ok (.getfield 29, 3) := by decide +kernel
theorem dX1_climb_15 : decode cX1_climb 15 = .ok (.getfield 94, 3) := by decide +kernel
theorem dX1_climb_18 : decode cX1_climb 18 = .ok (.aload_n 0, 1) := by decide +kernel
theorem dX1_climb_19 : decode cX1_climb 19 = .ok (.getfield 29, 3) := by decide +kernel
theorem dX1_climb_22 : decode cX1_climb 22 = .ok (.getfield 98, 3) := by decide +kernel
theorem dX1_climb_25 : decode cX1_climb 25 = .ok (.invokevirtual 119, 3) := by decide +kernel
theorem dX1_climb_28 : decode cX1_climb 28 = .ok (.iinc 2 1, 3) := by decide +kernel
theorem dX1_climb_31 : decode cX1_climb 31 = .ok (.goto (-29), 3) := by decide +kernel
theorem dX1_climb_34 : decode cX1_climb 34 = .ok (.return_, 1) := by decide +kernel
theorem dX1_smoothness_0 : decode cX1_smoothness 0 = .ok (.iconst 2, 1) := by decide +kernel
theorem dX1_smoothness_1 : decode cX1_smoothness 1 = .ok (.istore_n 1, 1) := by decide +kernel
theorem dX1_smoothness_2 : decode cX1_smoothness 2 = .ok (.iconst 0, 1) := by decide +kernel
theorem dX1_smoothness_3 : decode cX1_smoothness 3 = .ok (.istore_n 2, 1) := by decide +kernel
theorem dX1_smoothness_4 : decode cX1_smoothness 4 = .ok (.iload_n 2, 1) := by decide +kernel
theorem dX1_smoothness_5 : decode cX1_smoothness 5 = .ok (.aload_n 0, 1) := by decide +kernel
theorem dX1_smoothness_6 : decode cX1_smoothness 6 = .ok (.getfield 36, 3) := by decide +kernel
theorem dX1_smoothness_9 : decode cX1_smoothness 9 = .ok (.if_icmp .ge 41, 3) := by decide +kernel
theorem dX1_smoothness_12 : decode cX1_smoothness 12 = .ok (.aload_n 0, 1) := by decide +kernel
theorem dX1_smoothness_13 : decode cX1_smoothness 13 = .ok (.getfield 16, 3) := by decide +kernel
theorem dX1_smoothness_16 : decode cX1_smoothness 16 = .ok (.iload_n 2, 1) := by decide +kernel
theorem dX1_smoothness_17 : decode cX1_smoothness 17 = .ok (.iaload, 1) := by decide +kernel
theorem dX1_smoothness_18 : decode cX1_smoothness 18 = .ok (.iconst 1, 1) := by decide +kernel
theorem dX1_smoothness_19 : decode cX1_smoothness 19 = .ok (.if_icmp .ne 8, 3) := by decide +kernel
theorem dX1_smoothness_22 : decode cX1_smoothness 22 = .ok (.iconst 0, 1) := by decide +kernel
theorem dX1_smoothness_23 : decode cX1_smoothness 23 = .ok (.istore_n 1, 1) := by decide +kernel
theorem dX1_smoothness_24 : decode cX1_smoothness 24 = .ok (.goto 20, 3) := by decide +kernel
theorem dX1_smoothness_27 : decode cX1_smoothness 27 = .ok (.aload_n 0, 1) := by decide +kernel
theorem dX1_smoothness_28 : decode cX1_smoothness 28 = .ok (.getfield 16, 3) := by decide +kernel
theorem dX1_smoothness_31 : decode cX1_smoothness 31 = .ok (.iload_n 2, 1) := by decide +kernel
theorem dX1_smoothness_32 : decode cX1_smoothness 32 = .ok (.iaload, 1) := by decide +kernel
theorem dX1_smoothness_33 : decode cX1_smoothness 33 = .ok (.iconst 2, 1) := by decide +kernel
theorem dX1_smoothness_34 : decode cX1_smoothness 34 = .ok (.if_icmp .ne 10, 3) := by decide +kernel
theorem dX1_smoothness_37 : decode cX1_smoothness 37 = .ok (.iload_n 1, 1) := by decide +kernel
theorem dX1_smoothness_38 : decode cX1_smoothness 38 = .ok (.iconst 2, 1) := by decide +kernel
theorem dX1_smoothness_39 : decode cX1_smoothness 39 = .ok (.if_icmp .ne 5, 3) := by decide +kernel
theorem dX1_smoothness_42 : decode cX1_smoothness 42 = .ok (.iconst 1, 1) := by decide +kernel
theorem dX1_smoothness_43 : decode cX1_smoothness 43 = .ok (.istore_n 1, 1) := by decide +kernel
theorem dX1_smoothness_44 : decode cX1_smoothness 44 = .ok (.iinc 2 1, 3) := by decide +kernel
theorem dX1_smoothness_47 : decode cX1_smoothness 47 = .ok (.goto (-43), 3) := by decide +kernel
theorem dX1_smoothness_50 : decode cX1_smoothness 50 = .ok (.iload_n 1, 1) := by decide +kernel
theorem dX1_smoothness_51 : decode cX1_smoothness 51 = .ok (.ireturn, 1) := by decide +kernel
theorem dX1_findSteepest_0 : decode cX1_findSteepest 0 = .ok (.aload_n 1, 1) := by decide +kernel
theorem dX1_findSteepest_1 : decode cX1_findSteepest 1 = .ok (.lconst 0, 1) := by decide +kernel
theorem dX1_findSteepest_2 : decode cX1_findSteepest 2 = .ok (.lconst 1, 1) := by decide +kernel
theorem dX1_findSteepest_3 : decode cX1_findSteepest 3 = .ok (.invokevirtual 90, 3) := by decide +kernel
theorem dX1_findSteepest_6 : decode cX1_findSteepest 6 = .ok (.iconst 0, 1) := by decide +kernel
theorem dX1_findSteepest_7 : decode cX1_findSteepest 7 = .ok (.istore_n 2, 1) := by decide +kernel
theorem dX1_findSteepest_8 : decode cX1_findSteepest 8 = .ok (.iload_n 2, 1) := by decide +kernel
theorem dX1_findSteepest_9 : decode cX1_findSteepest 9 = .ok (.aload_n 0, 1) := by decide +kernel
theorem dX1_findSteepest_10 : decode cX1_findSteepest 10 = .ok (.getfield 36, 3) := by decide +kernel
theorem dX1_findSteepest_13 : decode cX1_findSteepest 13 = .ok (.if_icmp .ge 95, 3) := by decide +kernel
theorem dX1_findSteepest_16 : decode cX1_findSteepest 16 = .ok (.aload_n 0, 1) := by decide +kernel
theorem dX1_findSteepest_17 : decode cX1_findSteepest 17 = .ok (.getfield 13, 3) := by decide +kernel
theorem dX1_findSteepest_20 : decode cX1_findSteepest 20 = .ok (.iload_n 2, 1) := by decide +kernel
theorem dX1_findSteepest_21 : decode cX1_findSteepest 21 = .ok (.iaload, 1) := by decide +kernel
theorem dX1_findSteepest_22 : decode cX1_findSteepest 22 = .ok (.ifCond .eq 80, 3) := by decide +kernel
theorem dX1_findSteepest_25 : decode cX1_findSteepest 25 = .ok (.aload_n 0, 1) := by decide +kernel
theorem dX1_findSteepest_26 : decode cX1_findSteepest 26 = .ok (.getfield 29, 3) := by decide +kernel
theorem dX1_findSteepest_29 : decode cX1_findSteepest 29 = .ok (.aload_n 0, 1) := by decide +kernel
theorem dX1_findSteepest_30 : decode cX1_findSteepest 30 = .ok (.getfield 19, 3) := by decide +kernel
theorem dX1_findSteepest_33 : decode cX1_findSteepest 33 = .ok (.iload_n 2, 1) := by decide +kernel
theorem dX1_findSteepest_34 : decode cX1_findSteepest 34 = .ok (.laload, 1) := by decide +kernel
theorem dX1_findSteepest_35 : decode cX1_findSteepest 35 = .ok (.getstatic 155, 3) := by decide +kernel
theorem dX1_findSteepest_38 : decode cX1_findSteepest 38 = .ok (.aload_n 0, 1) := by decide +kernel
theorem dX1_findSteepest_39 : decode cX1_findSteepest 39 = .ok (.getfield 16, 3) := by decide +kernel
theorem dX1_findSteepest_42 : decode cX1_findSteepest 42 = .ok (.iload_n 2, 1) := by decide +kernel
theorem dX1_findSteepest_43 : decode cX1_findSteepest 43 = .ok (.iaload, 1) := by decide +kernel
theorem dX1_findSteepest_44 : decode cX1_findSteepest 44 = .ok (.iaload, 1) := by decide +kernel
theorem dX1_findSteepest_45 : decode cX1_findSteepest 45 = .ok (.i2l, 1) := by decide +kernel
theorem dX1_findSteepest_46 : decode cX1_findSteepest 46 = .ok (.lmul, 1) := by decide +kernel
theorem dX1_findSteepest_47 : decode cX1_findSteepest 47 = .ok (.aload_n 0, 1) := by decide +kernel
theorem dX1_findSteepest_48 : decode cX1_findSteepest 48 = .ok (.getfield 23, 3) := by decide +kernel
theorem dX1_findSteepest_51 : decode cX1_findSteepest 51 = .ok (.iload_n 2, 1) := by decide +kernel
theorem dX1_findSteepest_52 : decode cX1_findSteepest 52 = .ok (.laload, 1) := by decide +kernel
theorem dX1_findSteepest_53 : decode cX1_findSteepest 53 = .ok (.aload_n 0, 1) := by decide +kernel
theorem dX1_findSteepest_54 : decode cX1_findSteepest 54 = .ok (.getfield 9, 3) := by decide +kernel
theorem dX1_findSteepest_57 : decode cX1_findSteepest 57 = .ok (.iload_n 2, 1) := by decide +kernel
theorem dX1_findSteepest_58 : decode cX1_findSteepest 58 = .ok (.iaload, 1) := by decide +kernel
theorem dX1_findSteepest_59 : decode cX1_findSteepest 59 = .ok (.i2l, 1) := by decide +kernel
theorem dX1_findSteepest_60 : decode cX1_findSteepest 60 = .ok (.lmul, 1) := by decide +kernel
theorem dX1_findSteepest_61 : decode cX1_findSteepest 61 = .ok (.getstatic 158, 3) := by decide +kernel
theorem dX1_findSteepest_64 : decode cX1_findSteepest 64 = .ok (.aload_n 0, 1) := by decide +kernel
theorem dX1_findSteepest_65 : decode cX1_findSteepest 65 = .ok (.getfield 16, 3) := by decide +kernel
theorem dX1_findSteepest_68 : decode cX1_findSteepest 68 = .ok (.iload_n 2, 1) := by decide +kernel
theorem dX1_findSteepest_69 : decode cX1_findSteepest 69 = .ok (.iaload, 1) := by decide +kernel
theorem dX1_findSteepest_70 : decode cX1_findSteepest 70 = .ok (.iaload, 1) := by decide +kernel
theorem dX1_findSteepest_71 : decode cX1_findSteepest 71 = .ok (.i2l, 1) := by decide +kernel
theorem dX1_findSteepest_72 : decode cX1_findSteepest 72 = .ok (.lmul, 1) := by decide +kernel
theorem dX1_findSteepest_73 : decode cX1_findSteepest 73 = .ok (.invokevirtual 90, 3) := by decide +kernel
theorem dX1_findSteepest_76 : decode cX1_findSteepest 76 = .ok (.aload_n 0, 1) := by decide +kernel
theorem dX1_findSteepest_77 : decode cX1_findSteepest 77 = .ok (.getfield 29, 3) := by decide +kernel
theorem dX1_findSteepest_80 : decode cX1_findSteepest 80 = .ok (.aload_n 1, 1) := by decide +kernel
theorem dX1_findSteepest_81 : decode cX1_findSteepest 81 = .ok (.getfield 94, 3) := by decide +kernel
theorem dX1_findSteepest_84 : decode cX1_findSteepest 84 = .ok (.aload_n 1, 1) := by decide +kernel
theorem dX1_findSteepest_85 : decode cX1_findSteepest 85 = .ok (.getfield 98, 3) := by decide +kernel
theorem dX1_findSteepest_88 : decode cX1_findSteepest 88 = .ok (.invokevirtual 161, 3) := by decide +kernel
theorem dX1_findSteepest_91 : decode cX1_findSteepest 91 = .ok (.ifCond .eq 11, 3) := by decide +kernel
theorem dX1_findSteepest_94 : decode cX1_findSteepest 94 = .ok (.aload_n 1, 1) := by decide +kernel
theorem dX1_findSteepest_95 : decode cX1_findSteepest 95 = .ok (.aload_n 0, 1) := by decide +kernel
theorem dX1_findSteepest_96 : decode cX1_findSteepest 96 = .ok (.getfield 29, 3) := by decide +kernel
theorem dX1_findSteepest_99 : decode cX1_findSteepest 99 = .ok (.invokevirtual 131, 3) := by decide +kernel
theorem dX1_findSteepest_102 : decode cX1_findSteepest 102 = .ok (.iinc 2 1, 3) := by decide +kernel
theorem dX1_findSteepest_105 : decode cX1_findSteepest 105 = .ok (.goto (-97), 3) := by decide +kernel
theorem dX1_findSteepest_108 : decode cX1_findSteepest 108 = .ok (.return_, 1) := by decide +kernel
theorem dX2_init_0 : decode cX2_init 0 = .ok (.aload_n 0, 1) := by decide +kernel
theorem dX2_init_1 : decode cX2_init 1 = .ok (.invokespecial 1, 3) := by decide +kernel
theorem dX2_init_4 : decode cX2_init 4 = .ok (.aload_n 0, 1) := by decide +kernel
theorem dX2_init_5 : decode cX2_init 5 = .ok (.sipush 300, 3) := by decide +kernel
theorem dX2_init_8 : decode cX2_init 8 = .ok (.newarray .int, 2) := by decide +kernel
theorem dX2_init_10 : decode cX2_init 10 = .ok (.putfield 9, 3) := by decide +kernel
theorem dX2_init_13 : decode cX2_init 13 = .ok (.aload_n 0, 1) := by decide +kernel
theorem dX2_init_14 : decode cX2_init 14 = .ok (.bipush 40, 2) := by decide +kernel
theorem dX2_init_16 : decode cX2_init 16 = .ok (.newarray .int, 2) := by decide +kernel
theorem dX2_init_18 : decode cX2_init 18 = .ok (.putfield 13, 3) := by decide +kernel
theorem dX2_init_21 : decode cX2_init 21 = .ok (.aload_n 0, 1) := by decide +kernel
theorem dX2_init_22 : decode cX2_init 22 = .ok (.bipush 40, 2) := by decide +kernel
theorem dX2_init_24 : decode cX2_init 24 = .ok (.newarray .int, 2) := by decide +kernel
theorem dX2_init_26 : decode cX2_init 26 = .ok (.putfield 16, 3) := by decide +kernel
theorem dX2_init_29 : decode cX2_init 29 = .ok (.aload_n 0, 1) := by decide +kernel
theorem dX2_init_30 : decode cX2_init 30 = .ok (.bipush 40, 2) := by decide +kernel
theorem dX2_init_32 : decode cX2_init 32 = .ok (.newarray .int, 2) := by decide +kernel
theorem dX2_init_34 : decode cX2_init 34 = .ok (.putfield 19, 3) := by decide +kernel
theorem dX2_init_37 : decode cX2_init 37 = .ok (.aload_n 0, 1) := by decide +kernel
theorem dX2_init_38 : decode cX2_init 38 = .ok (.bipush 40, 2) := by decide +kernel
theorem dX2_init_40 : decode cX2_init 40 = .ok (.newarray .int, 2) := by decide +kernel
theorem dX2_init_42 : decode cX2_init 42 = .ok (.putfield 22, 3) := by decide +kernel
theorem dX2_init_45 : decode cX2_init 45 = .ok (.aload_n 0, 1) := by decide +kernel
theorem dX2_init_46 : decode cX2_init 46 = .ok (.bipush 40, 2) := by decide +kernel
theorem dX2_init_48 : decode cX2_init 48 = .ok (.newarray .boolean, 2) := by decide +kernel
theorem dX2_init_50 : decode cX2_init 50 = .ok (.putfield 25, 3) := by decide +kernel
theorem dX2_init_53 : decode cX2_init 53 = .ok (.aload_n 0, 1) := by decide +kernel
theorem dX2_init_54 : decode cX2_init 54 = .ok (.bipush 40, 2) := by decide +kernel
theorem dX2_init_56 : decode cX2_init 56 = .ok (.newarray .long, 2) := by decide +kernel
theorem dX2_init_58 : decode cX2_init 58 = .ok (.putfield 29, 3) := by decide +kernel
theorem dX2_init_61 : decode cX2_init 61 = .ok (.return_, 1) := by decide +kernel
theorem dX2_keptEvents_0 : decode cX2_keptEvents 0 = .ok (.aload_n 0, 1) := by decide +kernel
theorem dX2_keptEvents_1 : decode cX2_keptEvents 1 = .ok (.getfield 33, 3) := by decide +kernel
theorem dX2_keptEvents_4 : decode cX2_keptEvents 4 = .ok (.bipush 100, 2) := by decide +kernel
theorem dX2_keptEvents_6 : decode cX2_keptEvents 6 = .ok (.invokestatic 37, 3) := by decide +kernel
theorem dX2_keptEvents_9 : decode cX2_keptEvents 9 = .ok (.ireturn, 1) := by decide +kernel
theorem dX2_isRead_0 : decode cX2_isRead 0 = .ok (.aload_n 0, 1) := by decide +kernel
theorem dX2_isRead_1 : decode cX2_isRead 1 = .ok (.iconst 0, 1) := by decide +kernel
theorem dX2_isRead_2 : decode cX2_isRead 2 = .ok (.putfield 43, 3) := by decide +kernel
theorem dX2_isRead_5 : decode cX2_isRead 5 = .ok (.aload_n 1, 1) := by decide +kernel
theorem dX2_isRead_6 : decode cX2_isRead 6 = .ok (.ldc 46, 2) := by decide +kernel
theorem dX2_isRead_8 : decode cX2_isRead 8 = .ok (.invokevirtual 48, 3) := by decide +kernel
theorem dX2_isRead_11 : decode cX2_isRead 11 = .ok (.istore_n 3, 1) := by decide +kernel
theorem dX2_isRead_12 : decode cX2_isRead 12 = .ok (.iconst 0, 1) := by decide +kernel
theorem dX2_isRead_13 : decode cX2_isRead 13 = .ok (.istore 4, 2) := by decide +kernel
theorem dX2_isRead_15 : decode cX2_isRead 15 = .ok (.iload 4, 2) := by decide +kernel
theorem dX2_isRead_17 : decode cX2_isRead 17 = .ok (.sipush 4000, 3) := by decide +kernel
theorem dX2_isRead_20 : decode cX2_isRead 20 = .ok (.if_icmp .ge 39, 3) := by decide +kernel
theorem dX2_isRead_23 : decode cX2_isRead 23 = .ok (.iload_n 3, 1) := by decide +kernel
theorem dX2_isRead_24 : decode cX2_isRead 24 = .ok (.ifCond .eq 35, 3) := by decide +kernel
theorem dX2_isRead_27 : decode cX2_isRead 27 = .ok (.aload_n 1, 1) := by decide +kernel
theorem dX2_isRead_28 : decode cX2_isRead 28 = .ok (.ldc 46, 2) := by decide +kernel
theorem dX2_isRead_30 : decode cX2_isRead 30 = .ok (.invokevirtual 54, 3) := by decide +kernel
theorem dX2_isRead_33 : decode cX2_isRead 33 = .ok (.ifCond .eq 18, 3) := by decide +kernel
theorem dX2_isRead_36 : decode cX2_isRead 36 = .ok (.aload_n 0, 1) := by decide +kernel
theorem dX2_isRead_37 : decode cX2_isRead 37 = .ok (.aload_n 1, 1) := by decide +kernel
theorem dX2_isRead_38 : decode cX2_isRead 38 = .ok (.aload_n 2, 1) := by decide +kernel
theorem dX2_isRead_39 : decode cX2_isRead 39 = .ok (.iload 4, 2) := by decide +kernel
theorem dX2_isRead_41 : decode cX2_isRead 41 = .ok (.invokevirtual 57, 3) := by decide +kernel
theorem dX2_isRead_44 : decode cX2_isRead 44 = .ok (.ifCond .eq 7, 3) := by decide +kernel
theorem dX2_isRead_47 : decode cX2_isRead 47 = .ok (.iconst 1, 1) := by decide +kernel
theorem dX2_isRead_48 : decode cX2_isRead 48 = .ok (.goto 4, 3) := by decide +kernel
theorem dX2_isRead_51 : decode cX2_isRead 51 = .ok (.iconst 0, 1) := by decide +kernel
theorem dX2_isRead_52 : decode cX2_isRead 52 = .ok (.istore_n 3, 1) := by decide +kernel
theorem dX2_isRead_53 : decode cX2_isRead 53 = .ok (.iinc 4 1, 3) := by decide +kernel
theorem dX2_isRead_56 : decode cX2_isRead 56 = .ok (.goto (-41), 3) := by decide +kernel
theorem dX2_isRead_59 : decode cX2_isRead 59 = .ok (.aload_n 1, 1) := by decide +kernel
theorem dX2_isRead_60 : decode cX2_isRead 60 = .ok (.getfield 61, 3) := by decide +kernel
theorem dX2_isRead_63 : decode cX2_isRead 63 = .ok (.ifCond .ne 7, 3) := by decide +kernel
theorem dX2_isRead_66 : decode cX2_isRead 66 = .ok (.iconst 1, 1) := by decide +kernel
theorem dX2_isRead_67 : decode cX2_isRead 67 = .ok (.goto 4, 3) := by decide +kernel
theorem dX2_isRead_70 : decode cX2_isRead 70 = .ok (.iconst 0, 1) := by decide +kernel
theorem dX2_isRead_71 : decode cX2_isRead 71 = .ok (.ireturn, 1) := by decide +kernel
theorem dX2_isTaken_0 : decode cX2_isTaken 0 = .ok (.iload_n 3, 1) := by decide +kernel
theorem dX2_isTaken_1 : decode cX2_isTaken 1 = .ok (.bipush 40, 2) := by decide +kernel
theorem dX2_isTaken_3 : decode cX2_isTaken 3 = .ok (.if_icmp .lt 15, 3) := by decide +kernel
theorem dX2_isTaken_6 : decode cX2_isTaken 6 = .ok (.aload_n 1, 1) := by decide +kernel
theorem dX2_isTaken_7 : decode cX2_isTaken 7 = .ok (.bipush 6, 2) := by decide +kernel
theorem dX2_isTaken_9 : decode cX2_isTaken 9 = .ok (.aload_n 1, 1) := by decide +kernel
theorem dX2_isTaken_10 : decode cX2_isTaken 10 = .ok (.getfield 64, 3) := by decide +kernel
theorem dX2_isTaken_13 : decode cX2_isTaken 13 = .ok (.invokevirtual 67, 3) := by decide +kernel
theorem dX2_isTaken_16 : decode cX2_isTaken 16 = .ok (.iconst 0, 1) := by decide +kernel
theorem dX2_isTaken_17 : decode cX2_isTaken 17 = .ok (.ireturn, 1) := by decide +kernel
theorem dX2_isTaken_18 : decode cX2_isTaken 18 = .ok (.iconst 0, 1) := by decide +kernel
theorem dX2_isTaken_19 : decode cX2_isTaken 19 = .ok (.istore 4, 2) := by decide +kernel
theorem dX2_isTaken_21 : decode cX2_isTaken 21 = .ok (.iload 4, 2) := by decide +kernel
theorem dX2_isTaken_23 : decode cX2_isTaken 23 = .ok (.aload_n 1, 1) := by decide +kernel
theorem dX2_isTaken_24 : decode cX2_isTaken 24 = .ok (.getfield 71, 3) := by decide +kernel
theorem dX2_isTaken_27 : decode cX2_isTaken 27 = .ok (.if_icmp .ge 71, 3) := by decide +kernel
theorem dX2_isTaken_30 : decode cX2_isTaken 30 = .ok (.aload_n 1, 1) := by decide +kernel
theorem dX2_isTaken_31 : decode cX2_isTaken 31 = .ok (.getfield 74, 3) := by decide +kernel
theorem dX2_isTaken_34 : decode cX2_isTaken 34 = .ok (.iload 4, 2) := by decide +kernel
theorem dX2_isTaken_36 : decode cX2_isTaken 36 = .ok (.iaload, 1) := by decide +kernel
theorem dX2_isTaken_37 : decode cX2_isTaken 37 = .ok (.bipush 80, 2) := by decide +kernel
theorem dX2_isTaken_39 : decode cX2_isTaken 39 = .ok (.if_icmp .ne 32, 3) := by decide +kernel
theorem dX2_isTaken_42 : decode cX2_isTaken 42 = .ok (.aload_n 2, 1) := by decide +kernel
theorem dX2_isTaken_43 : decode cX2_isTaken 43 = .ok (.aload_n 1, 1) := by decide +kernel
theorem dX2_isTaken_44 : decode cX2_isTaken 44 = .ok (.getfield 77, 3) := by decide +kernel
theorem dX2_isTaken_47 : decode cX2_isTaken 47 = .ok (.iload 4, 2) := by decide +kernel
theorem dX2_isTaken_49 : decode cX2_isTaken 49 = .ok (.laload, 1) := by decide +kernel
theorem dX2_isTaken_50 : decode cX2_isTaken 50 = .ok (.invokevirtual 80, 3) := by decide +kernel
theorem dX2_isTaken_53 : decode cX2_isTaken 53 = .ok (.ifCond .ge 18, 3) := by decide +kernel
theorem dX2_isTaken_56 : decode cX2_isTaken 56 = .ok (.aload_n 1, 1) := by decide +kernel
theorem dX2_isTaken_57 : decode cX2_isTaken 57 = .ok (.iconst 3, 1) := by decide +kernel
theorem dX2_isTaken_58 : decode cX2_isTaken 58 = .ok (.aload_n 1, 1) := by decide +kernel
theorem dX2_isTaken_59 : decode cX2_isTaken 59 = .ok (.getfield 86, 3) := by decide +kernel
theorem dX2_isTaken_62 : decode cX2_isTaken 62 = .ok (.iload 4, 2) := by decide +kernel
theorem dX2_isTaken_64 : decode cX2_isTaken 64 = .ok (.iaload, 1) := by decide +kernel
theorem dX2_isTaken_65 : decode cX2_isTaken 65 = .ok (.invokevirtual 67, 3) := by decide +kernel
theorem dX2_isTaken_68 : decode cX2_isTaken 68 = .ok (.goto 24, 3) := by decide +kernel
theorem dX2_isTaken_71 : decode cX2_isTaken 71 = .ok (.aload_n 1, 1) := by decide +kernel
theorem dX2_isTaken_72 : decode cX2_isTaken 72 = .ok (.iload 4, 2) := by decide +kernel
theorem dX2_isTaken_74 : decode cX2_isTaken 74 = .ok (.invokevirtual 89, 3) := by decide +kernel
theorem dX2_isTaken_77 : decode cX2_isTaken 77 = .ok (.ifCond .ne 15, 3) := by decide +kernel
theorem dX2_isTaken_80 : decode cX2_isTaken 80 = .ok (.aload_n 1, 1) := by decide +kernel
theorem dX2_isTaken_81 : decode cX2_isTaken 81 = .ok (.iconst 5, 1) := by decide +kernel
theorem dX2_isTaken_82 : decode cX2_isTaken 82 = .ok (.aload_n 1, 1) := by decide +kernel
theorem dX2_isTaken_83 : decode cX2_isTaken 83 = .ok (.getfield 86, 3) := by decide +kernel
theorem dX2_isTaken_86 : decode cX2_isTaken 86 = .ok (.iload 4, 2) := by decide +kernel
theorem dX2_isTaken_88 : decode cX2_isTaken 88 = .ok (.iaload, 1) := by decide +kernel
theorem dX2_isTaken_89 : decode cX2_isTaken 89 = .ok (.invokevirtual 67, 3) := by decide +kernel
theorem dX2_isTaken_92 : decode cX2_isTaken 92 = .ok (.iinc 4 1, 3) := by decide +kernel
theorem dX2_isTaken_95 : decode cX2_isTaken 95 = .ok (.goto (-74), 3) := by decide +kernel
theorem dX2_isTaken_98 : decode cX2_isTaken 98 = .ok (.aload_n 1, 1) := by decide +kernel
theorem dX2_isTaken_99 : decode cX2_isTaken 99 = .ok (.getfield 61, 3) := by decide +kernel
theorem dX2_isTaken_102 : decode cX2_isTaken 102 = .ok (.ifCond .eq 5, 3) := by decide +kernel
theorem dX2_isTaken_105 : decode cX2_isTaken 105 = .ok (.iconst 0, 1) := by decide +kernel
theorem dX2_isTaken_106 : decode cX2_isTaken 106 = .ok (.ireturn, 1) := by decide +kernel
theorem dX2_isTaken_107 : decode cX2_isTaken 107 = .ok (.aload_n 0, 1) := by decide +kernel
theorem dX2_isTaken_108 : decode cX2_isTaken 108 = .ok (.getfield 13, 3) := by decide +kernel
theorem dX2_isTaken_111 : decode cX2_isTaken 111 = .ok (.iload_n 3, 1) := by decide +kernel
theorem dX2_isTaken_112 : decode cX2_isTaken 112 = .ok (.aload_n 1, 1) := by decide +kernel
theorem dX2_isTaken_113 : decode cX2_isTaken 113 = .ok (.getfield 93, 3) := by decide +kernel
theorem dX2_isTaken_116 : decode cX2_isTaken 116 = .ok (.iastore, 1) := by decide +kernel
theorem dX2_isTaken_117 : decode cX2_isTaken 117 = .ok (.aload_n 1, 1) := by decide +kernel
theorem dX2_isTaken_118 : decode cX2_isTaken 118 = .ok (.getfield 93, 3) := by decide +kernel
theorem dX2_isTaken_121 : decode cX2_isTaken 121 = .ok (.iconst 2, 1) := by decide +kernel
theorem dX2_isTaken_122 : decode cX2_isTaken 122 = .ok (.if_icmp .eq 11, 3) := by decide +kernel
theorem dX2_isTaken_125 : decode cX2_isTaken 125 = .ok (.aload_n 1, 1) := by decide +kernel
theorem dX2_isTaken_126 : decode cX2_isTaken 126 = .ok (.getfield 93, 3) := by decide +kernel
theorem dX2_isTaken_129 : decode cX2_isTaken 129 = .ok (.iconst 3, 1) := by decide +kernel
theorem dX2_isTaken_130 : decode cX2_isTaken 130 = .ok (.if_icmp .ne 17, 3) := by decide +kernel
theorem dX2_isTaken_133 : decode cX2_isTaken 133 = .ok (.aload_n 0, 1) := by decide +kernel
theorem dX2_isTaken_134 : decode cX2_isTaken 134 = .ok (.getfield 19, 3) := by decide +kernel
theorem dX2_isTaken_137 : decode cX2_isTaken 137 = .ok (.iload_n 3, 1) := by decide +kernel
theorem dX2_isTaken_138 : decode cX2_isTaken 138 = .ok (.aload_n 1, 1) := by decide +kernel
theorem dX2_isTaken_139 : decode cX2_isTaken 139 = .ok (.iconst 0, 1) := by decide +kernel
theorem dX2_isTaken_140 : decode cX2_isTaken 140 = .ok (.invokevirtual 96, 3) := by decide +kernel
theorem dX2_isTaken_143 : decode cX2_isTaken 143 = .ok (.iastore, 1) := by decide +kernel
theorem dX2_isTaken_144 : decode cX2_isTaken 144 = .ok (.goto 25, 3) := by decide +kernel
theorem dX2_isTaken_147 : decode cX2_isTaken 147 = .ok (.aload_n 0, 1) := by decide +kernel
theorem dX2_isTaken_148 : decode cX2_isTaken 148 = .ok (.getfield 16, 3) := by decide +kernel
theorem dX2_isTaken_151 : decode cX2_isTaken 151 = .ok (.iload_n 3, 1) := by decide +kernel
theorem dX2_isTaken_152 : decode cX2_isTaken 152 = .ok (.aload_n 1, 1) := by decide +kernel
theorem dX2_isTaken_153 : decode cX2_isTaken 153 = .ok (.iconst 0, 1) := by decide +kernel
theorem dX2_isTaken_154 : decode cX2_isTaken 154 = .ok (.invokevirtual 96, 3) := by decide +kernel
theorem dX2_isTaken_157 : decode cX2_isTaken 157 = .ok (.iastore, 1) := by decide +kernel
theorem dX2_isTaken_158 : decode cX2_isTaken 158 = .ok (.aload_n 0, 1) := by decide +kernel
theorem dX2_isTaken_159 : decode cX2_isTaken 159 = .ok (.getfield 19, 3) := by decide +kernel
theorem dX2_isTaken_162 : decode cX2_isTaken 162 = .ok (.iload_n 3, 1) := by decide +kernel
theorem dX2_isTaken_163 : decode cX2_isTaken 163 = .ok (.aload_n 1, 1) := by decide +kernel
theorem dX2_isTaken_164 : decode cX2_isTaken 164 = .ok (.iconst 1, 1) := by decide +kernel
theorem dX2_isTaken_165 : decode cX2_isTaken 165 = .ok (.invokevirtual 96, 3) := by decide +kernel
theorem dX2_isTaken_168 : decode cX2_isTaken 168 = .ok (.iastore, 1) := by decide +kernel
theorem dX2_isTaken_169 : decode cX2_isTaken 169 = .ok (.aload_n 1, 1) := by decide +kernel
theorem dX2_isTaken_170 : decode cX2_isTaken 170 = .ok (.getfield 93, 3) := by decide +kernel
theorem dX2_isTaken_173 : decode cX2_isTaken 173 = .ok (.iconst 1, 1) := by decide +kernel
theorem dX2_isTaken_174 : decode cX2_isTaken 174 = .ok (.if_icmp .ne 10, 3) := by decide +kernel
theorem dX2_isTaken_177 : decode cX2_isTaken 177 = .ok (.aload_n 0, 1) := by decide +kernel
theorem dX2_isTaken_178 : decode cX2_isTaken 178 = .ok (.aload_n 1, 1) := by decide +kernel
theorem dX2_isTaken_179 : decode cX2_isTaken 179 = .ok (.aload_n 2, 1) := by decide +kernel
theorem dX2_isTaken_180 : decode cX2_isTaken 180 = .ok (.iload_n 3, 1) := by decide +kernel
theorem dX2_isTaken_181 : decode cX2_isTaken 181 = .ok (.invokevirtual 100, 3) := by decide +kernel
theorem dX2_isTaken_184 : decode cX2_isTaken 184 = .ok (.aload_n 0, 1) := by decide +kernel
theorem dX2_isTaken_185 : decode cX2_isTaken 185 = .ok (.iload_n 3, 1) := by decide +kernel
theorem dX2_isTaken_186 : decode cX2_isTaken 186 = .ok (.iconst 1, 1) := by decide +kernel
theorem dX2_isTaken_187 : decode cX2_isTaken 187 = .ok (.iadd, 1) := by decide +kernel
theorem dX2_isTaken_188 : decode cX2_isTaken 188 = .ok (.putfield 43, 3) := by decide +kernel
theorem dX2_isTaken_191 : decode cX2_isTaken 191 = .ok (.iconst 1, 1) := by decide +kernel
theorem dX2_isTaken_192 : decode cX2_isTaken 192 = .ok (.ireturn, 1) := by decide +kernel
theorem dX2_takeGoal_0 : decode cX2_takeGoal 0 = .ok (.aload_n 0, 1) := by decide +kernel
theorem dX2_takeGoal_1 : decode cX2_takeGoal 1 = .ok (.getfield 22, 3) := by decide +kernel
theorem dX2_takeGoal_4 : decode cX2_takeGoal 4 = .ok (.iload_n 3, 1) := by decide +kernel
theorem dX2_takeGoal_5 : decode cX2_takeGoal 5 = .ok (.aload_n 2, 1) := by decide +kernel
theorem dX2_takeGoal_6 : decode cX2_takeGoal 6 = .ok (.aload_n 1, 1) := by decide +kernel
theorem dX2_takeGoal_7 : decode cX2_takeGoal 7 = .ok (.getfield 77, 3) := by decide +kernel
theorem dX2_takeGoal_10 : decode cX2_takeGoal 10 = .ok (.iconst 2, 1) := by decide +kernel
theorem dX2_takeGoal_11 : decode cX2_takeGoal 11 = .ok (.laload, 1) := by decide +kernel
theorem dX2_takeGoal_12 : decode cX2_takeGoal 12 = .ok (.invokevirtual 80, 3) := by decide +kernel
theorem dX2_takeGoal_15 : decode cX2_takeGoal 15 = .ok (.iastore, 1) := by decide +kernel
theorem dX2_takeGoal_16 : decode cX2_takeGoal 16 = .ok (.aload_n 0, 1) := by decide +kernel
theorem dX2_takeGoal_17 : decode cX2_takeGoal 17 = .ok (.getfield 25, 3) := by decide +kernel
theorem dX2_takeGoal_20 : decode cX2_takeGoal 20 = .ok (.iload_n 3, 1) := by decide +kernel
theorem dX2_takeGoal_21 : decode cX2_takeGoal 21 = .ok (.aload_n 1, 1) := by decide +kernel
theorem dX2_takeGoal_22 : decode cX2_takeGoal 22 = .ok (.getfield 104, 3) := by decide +kernel
theorem dX2_takeGoal_25 : decode cX2_takeGoal 25 = .ok (.iconst 3, 1) := by decide +kernel
theorem dX2_takeGoal_26 : decode cX2_takeGoal 26 = .ok (.iaload, 1) := by decide +kernel
theorem dX2_takeGoal_27 : decode cX2_takeGoal 27 = .ok (.bipush 45, 2) := by decide +kernel
theorem dX2_takeGoal_29 : decode cX2_takeGoal 29 = .ok (.if_icmp .ne 7, 3) := by decide +kernel
theorem dX2_takeGoal_32 : decode cX2_takeGoal 32 = .ok (.iconst 1, 1) := by decide +kernel
theorem dX2_takeGoal_33 : decode cX2_takeGoal 33 = .ok (.goto 4, 3) := by decide +kernel
theorem dX2_takeGoal_36 : decode cX2_takeGoal 36 = .ok (.iconst 0, 1) := by decide +kernel
theorem dX2_takeGoal_37 : decode cX2_takeGoal 37 = .ok (.bastore, 1) := by decide +kernel
theorem dX2_takeGoal_38 : decode cX2_takeGoal 38 = .ok (.aload_n 1, 1) := by decide +kernel
theorem dX2_takeGoal_39 : decode cX2_takeGoal 39 = .ok (.getfield 107, 3) := by decide +kernel
theorem dX2_takeGoal_42 : decode cX2_takeGoal 42 = .ok (.iconst 4, 1) := by decide +kernel
theorem dX2_takeGoal_43 : decode cX2_takeGoal 43 = .ok (.iaload, 1) := by decide +kernel
theorem dX2_takeGoal_44 : decode cX2_takeGoal 44 = .ok (.ifCond .le 30, 3) := by decide +kernel
theorem dX2_takeGoal_47 : decode cX2_takeGoal 47 = .ok (.aload_n 0, 1) := by decide +kernel
theorem dX2_takeGoal_48 : decode cX2_takeGoal 48 = .ok (.getfield 29, 3) := by decide +kernel
theorem dX2_takeGoal_51 : decode cX2_takeGoal 51 = .ok (.iload_n 3, 1) := by decide +kernel
theorem dX2_takeGoal_52 : decode cX2_takeGoal 52 = .ok (.ldc2_w 112, 3) := by decide +kernel
theorem dX2_takeGoal_55 : decode cX2_takeGoal 55 = .ok (.aload_n 1, 1) := by decide +kernel
theorem dX2_takeGoal_56 : decode cX2_takeGoal 56 = .ok (.getfield 104, 3) := by decide +kernel
theorem dX2_takeGoal_59 : decode cX2_takeGoal 59 = .ok (.iconst 4, 1) := by decide +kernel
theorem dX2_takeGoal_60 : decode cX2_takeGoal 60 = .ok (.iaload, 1) := by decide +kernel
theorem dX2_takeGoal_61 : decode cX2_takeGoal 61 = .ok (.i2l, 1) := by decide +kernel
theorem dX2_takeGoal_62 : decode cX2_takeGoal 62 = .ok (.lmul, 1) := by decide +kernel
theorem dX2_takeGoal_63 : decode cX2_takeGoal 63 = .ok (.aload_n 1, 1) := by decide +kernel
theorem dX2_takeGoal_64 : decode cX2_takeGoal 64 = .ok (.getfield 107, 3) := by decide +kernel
theorem dX2_takeGoal_67 : decode cX2_takeGoal 67 = .ok (.iconst 4, 1) := by decide +kernel
theorem dX2_takeGoal_68 : decode cX2_takeGoal 68 = .ok (.iaload, 1) := by decide +kernel
theorem dX2_takeGoal_69 : decode cX2_takeGoal 69 = .ok (.i2l, 1) := by decide +kernel
theorem dX2_takeGoal_70 : decode cX2_takeGoal 70 = .ok (.invokestatic 114, 3) := by decide +kernel
theorem dX2_takeGoal_73 : decode cX2_takeGoal 73 = .ok (.lastore, 1) := by decide +kernel
theorem dX2_takeGoal_74 : decode cX2_takeGoal 74 = .ok (.return_, 1) := by decide +kernel
theorem dX2_run_0 : decode cX2_run 0 = .ok (.aload_n 0, 1) := by decide +kernel
theorem dX2_run_1 : decode cX2_run 1 = .ok (.iconst 0, 1) := by decide +kernel
theorem dX2_run_2 : decode cX2_run 2 = .ok (.putfield 118, 3) := by decide +kernel
theorem dX2_run_5 : decode cX2_run 5 = .ok (.aload_n 0, 1) := by decide +kernel
theorem dX2_run_6 : decode cX2_run 6 = .ok (.iconst 0, 1) := by decide +kernel
theorem dX2_run_7 : decode cX2_run 7 = .ok (.putfield 33, 3) := by decide +kernel
theorem dX2_run_10 : decode cX2_run 10 = .ok (.aload_n 0, 1) := by decide +kernel
theorem dX2_run_11 : decode cX2_run 11 = .ok (.iconst 0, 1) := by decide +kernel
theorem dX2_run_12 : decode cX2_run 12 = .ok (.putfield 121, 3) := by decide +kernel
theorem dX2_run_15 : decode cX2_run 15 = .ok (.iconst 0, 1) := by decide +kernel
theorem dX2_run_16 : decode cX2_run 16 = .ok (.istore_n 2, 1) := by decide +kernel
theorem dX2_run_17 : decode cX2_run 17 = .ok (.iconst 0, 1) := by decide +kernel
theorem dX2_run_18 : decode cX2_run 18 = .ok (.istore_n 3, 1) := by decide +kernel
theorem dX2_run_19 : decode cX2_run 19 = .ok (.iconst (-1), 1) := by decide +kernel
theorem dX2_run_20 : decode cX2_run 20 = .ok (.istore 4, 2) := by decide +kernel
theorem dX2_run_22 : decode cX2_run 22 = .ok (.iconst 0, 1) := by decide +kernel
theorem dX2_run_23 : decode cX2_run 23 = .ok (.istore 5, 2) := by decide +kernel
theorem dX2_run_25 : decode cX2_run 25 = .ok (.iconst 0, 1) := by decide +kernel
theorem dX2_run_26 : decode cX2_run 26 = .ok (.istore 6, 2) := by decide +kernel
theorem dX2_run_28 : decode cX2_run 28 = .ok (.iload 6, 2) := by decide +kernel
theorem dX2_run_30 : decode cX2_run 30 = .ok (.sipush 1000, 3) := by decide +kernel
theorem dX2_run_33 : decode cX2_run 33 = .ok (.if_icmp .ge 89, 3) := by decide +kernel
theorem dX2_run_36 : decode cX2_run 36 = .ok (.iload 5, 2) := by decide +kernel
theorem dX2_run_38 : decode cX2_run 38 = .ok (.aload_n 0, 1) := by decide +kernel
theorem dX2_run_39 : decode cX2_run 39 = .ok (.getfield 43, 3) := by decide +kernel
theorem dX2_run_42 : decode cX2_run 42 = .ok (.if_icmp .ge 80, 3) := by decide +kernel
theorem dX2_run_45 : decode cX2_run 45 = .ok (.iload_n 2, 1) := by decide +kernel
theorem dX2_run_46 : decode cX2_run 46 = .ok (.ifCond .ne 76, 3) := by decide +kernel
theorem dX2_run_49 : decode cX2_run 49 = .ok (.aload_n 0, 1) := by decide +kernel
theorem dX2_run_50 : decode cX2_run 50 = .ok (.getfield 13, 3) := by decide +kernel
theorem dX2_run_53 : decode cX2_run 53 = .ok (.iload 5, 2) := by decide +kernel
theorem dX2_run_55 : decode cX2_run 55 = .ok (.iaload, 1) := by decide +kernel
theorem dX2_run_56 : decode cX2_run 56 = .ok (.iconst 2, 1) := by decide +kernel
theorem dX2_run_57 : decode cX2_run 57 = .ok (.if_icmp .eq 17, 3) := by decide +kernel
theorem dX2_run_60 : decode cX2_run 60 = .ok (.aload_n 0, 1) := by decide +kernel
theorem dX2_run_61 : decode cX2_run 61 = .ok (.aload_n 1, 1) := by decide +kernel
theorem dX2_run_62 : decode cX2_run 62 = .ok (.iload 5, 2) := by decide +kernel
theorem dX2_run_64 : decode cX2_run 64 = .ok (.invokevirtual 124, 3) := by decide +kernel
theorem dX2_run_67 : decode cX2_run 67 = .ok (.istore_n 2, 1) := by decide +kernel
theorem dX2_run_68 : decode cX2_run 68 = .ok (.iinc 5 1, 3) := by decide +kernel
theorem dX2_run_71 : decode cX2_run 71 = .ok (.goto 45, 3) := by decide +kernel
theorem dX2_run_74 : decode cX2_run 74 = .ok (.iload 4, 2) := by decide +kernel
theorem dX2_run_76 : decode cX2_run 76 = .ok (.ifCond .ge 13, 3) := by decide +kernel
theorem dX2_run_79 : decode cX2_run 79 = .ok (.aload_n 0, 1) := by decide +kernel
theorem dX2_run_80 : decode cX2_run 80 = .ok (.getfield 19, 3) := by decide +kernel
theorem dX2_run_83 : decode cX2_run 83 = .ok (.iload 5, 2) := by decide +kernel
theorem dX2_run_85 : decode cX2_run 85 = .ok (.iaload, 1) := by decide +kernel
theorem dX2_run_86 : decode cX2_run 86 = .ok (.goto 5, 3) := by decide +kernel
theorem dX2_run_89 : decode cX2_run 89 = .ok (.iload 4, 2) := by decide +kernel
theorem dX2_run_91 : decode cX2_run 91 = .ok (.istore 4, 2) := by decide +kernel
theorem dX2_run_93 : decode cX2_run 93 = .ok (.iload 4, 2) := by decide +kernel
theorem dX2_run_95 : decode cX2_run 95 = .ok (.ifCond .le 12, 3) := by decide +kernel
theorem dX2_run_98 : decode cX2_run 98 = .ok (.iinc 4 (-1), 3) := by decide +kernel
theorem dX2_run_101 : decode cX2_run 101 = .ok (.iload_n 3, 1) := by decide +kernel
theorem dX2_run_102 : decode cX2_run 102 = .ok (.istore 5, 2) := by decide +kernel
theorem dX2_run_104 : decode cX2_run 104 = .ok (.goto 12, 3) := by decide +kernel
theorem dX2_run_107 : decode cX2_run 107 = .ok (.iconst (-1), 1) := by decide +kernel
theorem dX2_run_108 : decode cX2_run 108 = .ok (.istore 4, 2) := by decide +kernel
theorem dX2_run_110 : decode cX2_run 110 = .ok (.iinc 5 1, 3) := by decide +kernel
theorem dX2_run_113 : decode cX2_run 113 = .ok (.iload 5, 2) := by decide +kernel
theorem dX2_run_115 : decode cX2_run 115 = .ok (.istore_n 3, 1) := by decide +kernel
theorem dX2_run_116 : decode cX2_run 116 = .ok (.iinc 6 1, 3) := by decide +kernel
theorem dX2_run_119 : decode cX2_run 119 = .ok (.goto (-91), 3) := by decide +kernel
theorem dX2_run_122 : decode cX2_run 122 = .ok (.iload_n 2, 1) := by decide +kernel
theorem dX2_run_123 : decode cX2_run 123 = .ok (.ireturn, 1) := by decide +kernel
theorem dX2_move_0 : decode cX2_move 0 = .ok (.aload_n 0, 1) := by decide +kernel
theorem dX2_move_1 : decode cX2_move 1 = .ok (.getfield 13, 3) := by decide +kernel
theorem dX2_move_4 : decode cX2_move 4 = .ok (.iload_n 2, 1) := by decide +kernel
theorem dX2_move_5 : decode cX2_move 5 = .ok (.iaload, 1) := by decide +kernel
theorem dX2_move_6 : decode cX2_move 6 = .ok (.iconst 3, 1) := by decide +kernel
theorem dX2_move_7 : decode cX2_move 7 = .ok (.if_icmp .ne 15, 3) := by decide +kernel
theorem dX2_move_10 : decode cX2_move 10 = .ok (.aload_n 0, 1) := by decide +kernel
theorem dX2_move_11 : decode cX2_move 11 = .ok (.aload_n 0, 1) := by decide +kernel
theorem dX2_move_12 : decode cX2_move 12 = .ok (.getfield 19, 3) := by decide +kernel
theorem dX2_move_15 : decode cX2_move 15 = .ok (.iload_n 2, 1) := by decide +kernel
theorem dX2_move_16 : decode cX2_move 16 = .ok (.iaload, 1) := by decide +kernel
theorem dX2_move_17 : decode cX2_move 17 = .ok (.putfield 121, 3) := by decide +kernel
theorem dX2_move_20 : decode cX2_move 20 = .ok (.iconst 0, 1) := by decide +kernel
theorem dX2_move_21 : decode cX2_move 21 = .ok (.ireturn, 1) := by decide +kernel
theorem dX2_move_22 : decode cX2_move 22 = .ok (.aload_n 0, 1) := by decide +kernel
theorem dX2_move_23 : decode cX2_move 23 = .ok (.getfield 16, 3) := by decide +kernel
theorem dX2_move_26 : decode cX2_move 26 = .ok (.iload_n 2, 1) := by decide +kernel
theorem dX2_move_27 : decode cX2_move 27 = .ok (.iaload, 1) := by decide +kernel
theorem dX2_move_28 : decode cX2_move 28 = .ok (.istore_n 3, 1) := by decide +kernel
theorem dX2_move_29 : decode cX2_move 29 = .ok (.aload_n 0, 1) := by decide +kernel
theorem dX2_move_30 : decode cX2_move 30 = .ok (.getfield 19, 3) := by decide +kernel
theorem dX2_move_33 : decode cX2_move 33 = .ok (.iload_n 2, 1) := by decide +kernel
theorem dX2_move_34 : decode cX2_move 34 = .ok (.iaload, 1) := by decide +kernel
theorem dX2_move_35 : decode cX2_move 35 = .ok (.ifCond .ge 7, 3) := by decide +kernel
theorem dX2_move_38 : decode cX2_move 38 = .ok (.iconst (-1), 1) := by decide +kernel
theorem dX2_move_39 : decode cX2_move 39 = .ok (.goto 4, 3) := by decide +kernel
theorem dX2_move_42 : decode cX2_move 42 = .ok (.iconst 1, 1) := by decide +kernel
theorem dX2_move_43 : decode cX2_move 43 = .ok (.istore 4, 2) := by decide +kernel
theorem dX2_move_45 : decode cX2_move 45 = .ok (.iconst 0, 1) := by decide +kernel
theorem dX2_move_46 : decode cX2_move 46 = .ok (.istore 5, 2) := by decide +kernel
theorem dX2_move_48 : decode cX2_move 48 = .ok (.iload 5, 2) := by decide +kernel
theorem dX2_move_50 : decode cX2_move 50 = .ok (.aload_n 0, 1) := by decide +kernel
theorem dX2_move_51 : decode cX2_move 51 = .ok (.getfield 19, 3) := by decide +kernel
theorem dX2_move_54 : decode cX2_move 54 = .ok (.iload_n 2, 1) := by decide +kernel
theorem dX2_move_55 : decode cX2_move 55 = .ok (.iaload, 1) := by decide +kernel
theorem dX2_move_56 : decode cX2_move 56 = .ok (.invokestatic 128, 3) := by decide +kernel
theorem dX2_move_59 : decode cX2_move 59 = .ok (.if_icmp .ge 133, 3) := by decide +kernel
theorem dX2_move_62 : decode cX2_move 62 = .ok (.aload_n 0, 1) := by decide +kernel
theorem dX2_move_63 : decode cX2_move 63 = .ok (.getfield 13, 3) := by decide +kernel
theorem dX2_move_66 : decode cX2_move 66 = .ok (.iload_n 2, 1) := by decide +kernel
theorem dX2_move_67 : decode cX2_move 67 = .ok (.iaload, 1) := by decide +kernel
theorem dX2_move_68 : decode cX2_move 68 = .ok (.iconst 1, 1) := by decide +kernel
theorem dX2_move_69 : decode cX2_move 69 = .ok (.if_icmp .ne 19, 3) := by decide +kernel
theorem dX2_move_72 : decode cX2_move 72 = .ok (.aload_n 1, 1) := by decide +kernel
theorem dX2_move_73 : decode cX2_move 73 = .ok (.aload_n 0, 1) := by decide +kernel
theorem dX2_move_74 : decode cX2_move 74 = .ok (.getfield 121, 3) := by decide +kernel
theorem dX2_move_77 : decode cX2_move 77 = .ok (.iconst 1, 1) := by decide +kernel
theorem dX2_move_78 : decode cX2_move 78 = .ok (.invokevirtual 131, 3) := by decide +kernel
theorem dX2_move_81 : decode cX2_move 81 = .ok (.ifCond .ne 7, 3) := by decide +kernel
theorem dX2_move_84 : decode cX2_move 84 = .ok (.iconst 1, 1) := by decide +kernel
theorem dX2_move_85 : decode cX2_move 85 = .ok (.goto 4, 3) := by decide +kernel
theorem dX2_move_88 : decode cX2_move 88 = .ok (.iconst 0, 1) := by decide +kernel
theorem dX2_move_89 : decode cX2_move 89 = .ok (.istore 6, 2) := by decide +kernel
theorem dX2_move_91 : decode cX2_move 91 = .ok (.iload 6, 2) := by decide +kernel
theorem dX2_move_93 : decode cX2_move 93 = .ok (.ifCond .eq 28, 3) := by decide +kernel
theorem dX2_move_96 : decode cX2_move 96 = .ok (.aload_n 0, 1) := by decide +kernel
theorem dX2_move_97 : decode cX2_move 97 = .ok (.aload_n 1, 1) := by decide +kernel
theorem dX2_move_98 : decode cX2_move 98 = .ok (.getfield 135, 3) := by decide +kernel
theorem dX2_move_101 : decode cX2_move 101 = .ok (.aload_n 0, 1) := by decide +kernel
theorem dX2_move_102 : decode cX2_move 102 = .ok (.getfield 22, 3) := by decide +kernel
theorem dX2_move_105 : decode cX2_move 105 = .ok (.iload_n 2, 1) := by decide +kernel
theorem dX2_move_106 : decode cX2_move 106 = .ok (.iaload, 1) := by decide +kernel
theorem dX2_move_107 : decode cX2_move 107 = .ok (.aaload, 1) := by decide +kernel
theorem dX2_move_108 : decode cX2_move 108 = .ok (.getfield 139, 3) := by decide +kernel
theorem dX2_move_111 : decode cX2_move 111 = .ok (.iload_n 2, 1) := by decide +kernel
theorem dX2_move_112 : decode cX2_move 112 = .ok (.invokevirtual 145, 3) := by decide +kernel
theorem dX2_move_115 : decode cX2_move 115 = .ok (.ifCond .eq 6, 3) := by decide +kernel
theorem dX2_move_118 : decode cX2_move 118 = .ok (.goto 74, 3) := by decide +kernel
theorem dX2_move_121 : decode cX2_move 121 = .ok (.aload_n 0, 1) := by decide +kernel
theorem dX2_move_122 : decode cX2_move 122 = .ok (.getfield 118, 3) := by decide +kernel
theorem dX2_move_125 : decode cX2_move 125 = .ok (.sipush 2000, 3) := by decide +kernel
theorem dX2_move_128 : decode cX2_move 128 = .ok (.if_icmp .lt 5, 3) := by decide +kernel
theorem dX2_move_131 : decode cX2_move 131 = .ok (.iconst 2, 1) := by decide +kernel
theorem dX2_move_132 : decode cX2_move 132 = .ok (.ireturn, 1) := by decide +kernel
theorem dX2_move_133 : decode cX2_move 133 = .ok (.aload_n 0, 1) := by decide +kernel
theorem dX2_move_134 : decode cX2_move 134 = .ok (.dup, 1) := by decide +kernel
theorem dX2_move_135 : decode cX2_move 135 = .ok (.getfield 118, 3) := by decide +kernel
theorem dX2_move_138 : decode cX2_move 138 = .ok (.iconst 1, 1) := by decide +kernel
theorem dX2_move_139 : decode cX2_move 139 = .ok (.iadd, 1) := by decide +kernel
theorem dX2_move_140 : decode cX2_move 140 = .ok (.putfield 118, 3) := by decide +kernel
theorem dX2_move_143 : decode cX2_move 143 = .ok (.aload_n 1, 1) := by decide +kernel
theorem dX2_move_144 : decode cX2_move 144 = .ok (.getfield 149, 3) := by decide +kernel
theorem dX2_move_147 : decode cX2_move 147 = .ok (.iload_n 3, 1) := by decide +kernel
theorem dX2_move_148 : decode cX2_move 148 = .ok (.iaload, 1) := by decide +kernel
theorem dX2_move_149 : decode cX2_move 149 = .ok (.istore 7, 2) := by decide +kernel
theorem dX2_move_151 : decode cX2_move 151 = .ok (.aload_n 1, 1) := by decide +kernel
theorem dX2_move_152 : decode cX2_move 152 = .ok (.iload_n 3, 1) := by decide +kernel
theorem dX2_move_153 : decode cX2_move 153 = .ok (.iload 7, 2) := by decide +kernel
theorem dX2_move_155 : decode cX2_move 155 = .ok (.iload 4, 2) := by decide +kernel
theorem dX2_move_157 : decode cX2_move 157 = .ok (.iadd, 1) := by decide +kernel
theorem dX2_move_158 : decode cX2_move 158 = .ok (.sipush 1023, 3) := by decide +kernel
theorem dX2_move_161 : decode cX2_move 161 = .ok (.iand, 1) := by decide +kernel
theorem dX2_move_162 : decode cX2_move 162 = .ok (.invokevirtual 152, 3) := by decide +kernel
theorem dX2_move_165 : decode cX2_move 165 = .ok (.aload_n 1, 1) := by decide +kernel
theorem dX2_move_166 : decode cX2_move 166 = .ok (.aload_n 0, 1) := by decide +kernel
theorem dX2_move_167 : decode cX2_move 167 = .ok (.getfield 121, 3) := by decide +kernel
theorem dX2_move_170 : decode cX2_move 170 = .ok (.iconst 1, 1) := by decide +kernel
theorem dX2_move_171 : decode cX2_move 171 = .ok (.invokevirtual 131, 3) := by decide +kernel
theorem dX2_move_174 : decode cX2_move 174 = .ok (.ifCond .eq 12, 3) := by decide +kernel
theorem dX2_move_177 : decode cX2_move 177 = .ok (.aload_n 1, 1) := by decide +kernel
theorem dX2_move_178 : decode cX2_move 178 = .ok (.iload_n 3, 1) := by decide +kernel
theorem dX2_move_179 : decode cX2_move 179 = .ok (.iload 7, 2) := by decide +kernel
theorem dX2_move_181 : decode cX2_move 181 = .ok (.invokevirtual 152, 3) := by decide +kernel
theorem dX2_move_184 : decode cX2_move 184 = .ok (.iconst 1, 1) := by decide +kernel
theorem dX2_move_185 : decode cX2_move 185 = .ok (.ireturn, 1) := by decide +kernel
theorem dX2_move_186 : decode cX2_move 186 = .ok (.iinc 5 1, 3) := by decide +kernel
theorem dX2_move_189 : decode cX2_move 189 = .ok (.goto (-141), 3) := by decide +kernel
theorem dX2_move_192 : decode cX2_move 192 = .ok (.aload_n 0, 1) := by decide +kernel
theorem dX2_move_193 : decode cX2_move 193 = .ok (.iload_n 2, 1) := by decide +kernel
theorem dX2_move_194 : decode cX2_move 194 = .ok (.iload_n 3, 1) := by decide +kernel
theorem dX2_move_195 : decode cX2_move 195 = .ok (.aload_n 1, 1) := by decide +kernel
theorem dX2_move_196 : decode cX2_move 196 = .ok (.getfield 149, 3) := by decide +kernel
theorem dX2_move_199 : decode cX2_move 199 = .ok (.iload_n 3, 1) := by decide +kernel
theorem dX2_move_200 : decode cX2_move 200 = .ok (.iaload, 1) := by decide +kernel
theorem dX2_move_201 : decode cX2_move 201 = .ok (.invokevirtual 155, 3) := by decide +kernel
theorem dX2_move_204 : decode cX2_move 204 = .ok (.iconst 0, 1) := by decide +kernel
theorem dX2_move_205 : decode cX2_move 205 = .ok (.ireturn, 1) := by decide +kernel
theorem dX2_isReached_0 : decode cX2_isReached 0 = .ok (.aload_n 0, 1) := by decide +kernel
theorem dX2_isReached_1 : decode cX2_isReached 1 = .ok (.getfield 25, 3) := by decide +kernel
theorem dX2_isReached_4 : decode cX2_isReached 4 = .ok (.iload_n 2, 1) := by decide +kernel
theorem dX2_isReached_5 : decode cX2_isReached 5 = .ok (.baload, 1) := by decide +kernel
theorem dX2_isReached_6 : decode cX2_isReached 6 = .ok (.ifCond .eq 13, 3) := by decide +kernel
theorem dX2_isReached_9 : decode cX2_isReached 9 = .ok (.aload_n 1, 1) := by decide +kernel
theorem dX2_isReached_10 : decode cX2_isReached 10 = .ok (.getfield 159, 3) := by decide +kernel
theorem dX2_isReached_13 : decode cX2_isReached 13 = .ok (.getfield 165, 3) := by decide +kernel
theorem dX2_isReached_16 : decode cX2_isReached 16 = .ok (.goto 10, 3) := by decide +kernel
theorem dX2_isReached_19 : decode cX2_isReached 19 = .ok (.aload_n 1, 1) := by decide +kernel
theorem dX2_isReached_20 : decode cX2_isReached 20 = .ok (.getfield 169, 3) := by decide +kernel
theorem dX2_isReached_23 : decode cX2_isReached 23 = .ok (.getfield 165, 3) := by decide +kernel
theorem dX2_isReached_26 : decode cX2_isReached 26 = .ok (.aload_n 0, 1) := by decide +kernel
theorem dX2_isReached_27 : decode cX2_isReached 27 = .ok (.getfield 29, 3) := by decide +kernel
theorem dX2_isReached_30 : decode cX2_isReached 30 = .ok (.iload_n 2, 1) := by decide +kernel
theorem dX2_isReached_31 : decode cX2_isReached 31 = .ok (.laload, 1) := by decide +kernel
theorem dX2_isReached_32 : decode cX2_isReached 32 = .ok (.lcmp, 1) := by decide +kernel
theorem dX2_isReached_33 : decode cX2_isReached 33 = .ok (.ifCond .le 7, 3) := by decide +kernel
theorem dX2_isReached_36 : decode cX2_isReached 36 = .ok (.iconst 1, 1) := by decide +kernel
theorem dX2_isReached_37 : decode cX2_isReached 37 = .ok (.goto 4, 3) := by decide +kernel
theorem dX2_isReached_40 : decode cX2_isReached 40 = .ok (.iconst 0, 1) := by decide +kernel
theorem dX2_isReached_41 : decode cX2_isReached 41 = .ok (.ireturn, 1) := by decide +kernel
theorem dX2_keepEvent_0 : decode cX2_keepEvent 0 = .ok (.aload_n 0, 1) := by decide +kernel
theorem dX2_keepEvent_1 : decode cX2_keepEvent 1 = .ok (.getfield 33, 3) := by decide +kernel
theorem dX2_keepEvent_4 : decode cX2_keepEvent 4 = .ok (.bipush 100, 2) := by decide +kernel
theorem dX2_keepEvent_6 : decode cX2_keepEvent 6 = .ok (.if_icmp .ge 43, 3) := by decide +kernel
theorem dX2_keepEvent_9 : decode cX2_keepEvent 9 = .ok (.aload_n 0, 1) := by decide +kernel
theorem dX2_keepEvent_10 : decode cX2_keepEvent 10 = .ok (.getfield 9, 3) := by decide +kernel
theorem dX2_keepEvent_13 : decode cX2_keepEvent 13 = .ok (.iconst 3, 1) := by decide +kernel
theorem dX2_keepEvent_14 : decode cX2_keepEvent 14 = .ok (.aload_n 0, 1) := by decide +kernel
theorem dX2_keepEvent_15 : decode cX2_keepEvent 15 = .ok (.getfield 33, 3) := by decide +kernel
theorem dX2_keepEvent_18 : decode cX2_keepEvent 18 = .ok (.imul, 1) := by decide +kernel
theorem dX2_keepEvent_19 : decode cX2_keepEvent 19 = .ok (.iload_n 1, 1) := by decide +kernel
theorem dX2_keepEvent_20 : decode cX2_keepEvent 20 = .ok (.iastore, 1) := by decide +kernel
theorem dX2_keepEvent_21 : decode cX2_keepEvent 21 = .ok (.aload_n 0, 1) := by decide +kernel
theorem dX2_keepEvent_22 : decode cX2_keepEvent 22 = .ok (.getfield 9, 3) := by decide +kernel
theorem dX2_keepEvent_25 : decode cX2_keepEvent 25 = .ok (.iconst 3, 1) := by decide +kernel
theorem dX2_keepEvent_26 : decode cX2_keepEvent 26 = .ok (.aload_n 0, 1) := by decide +kernel
theorem dX2_keepEvent_27 : decode cX2_keepEvent 27 = .ok (.getfield 33, 3) := by decide +kernel
theorem dX2_keepEvent_30 : decode cX2_keepEvent 30 = .ok (.imul, 1) := by decide +kernel
theorem dX2_keepEvent_31 : decode cX2_keepEvent 31 = .ok (.iconst 1, 1) := by decide +kernel
theorem dX2_keepEvent_32 : decode cX2_keepEvent 32 = .ok (.iadd, 1) := by decide +kernel
theorem dX2_keepEvent_33 : decode cX2_keepEvent 33 = .ok (.iload_n 2, 1) := by decide +kernel
theorem dX2_keepEvent_34 : decode cX2_keepEvent 34 = .ok (.iastore, 1) := by decide +kernel
theorem dX2_keepEvent_35 : decode cX2_keepEvent 35 = .ok (.aload_n 0, 1) := by decide +kernel
theorem dX2_keepEvent_36 : decode cX2_keepEvent 36 = .ok (.getfield 9, 3) := by decide +kernel
theorem dX2_keepEvent_39 : decode cX2_keepEvent 39 = .ok (.iconst 3, 1) := by decide +kernel
theorem dX2_keepEvent_40 : decode cX2_keepEvent 40 = .ok (.aload_n 0, 1) := by decide +kernel
theorem dX2_keepEvent_41 : decode cX2_keepEvent 41 = .ok (.getfield 33, 3) := by decide +kernel
theorem dX2_keepEvent_44 : decode cX2_keepEvent 44 = .ok (.imul, 1) := by decide +kernel
theorem dX2_keepEvent_45 : decode cX2_keepEvent 45 = .ok (.iconst 2, 1) := by decide +kernel
theorem dX2_keepEvent_46 : decode cX2_keepEvent 46 = .ok (.iadd, 1) := by decide +kernel
theorem dX2_keepEvent_47 : decode cX2_keepEvent 47 = .ok (.iload_n 3, 1) := by decide +kernel
theorem dX2_keepEvent_48 : decode cX2_keepEvent 48 = .ok (.iastore, 1) := by decide +kernel
theorem dX2_keepEvent_49 : decode cX2_keepEvent 49 = .ok (.aload_n 0, 1) := by decide +kernel
theorem dX2_keepEvent_50 : decode cX2_keepEvent 50 = .ok (.dup, 1) := by decide +kernel
theorem dX2_keepEvent_51 : decode cX2_keepEvent 51 = .ok (.getfield 33, 3) := by decide +kernel
theorem dX2_keepEvent_54 : decode cX2_keepEvent 54 = .ok (.iconst 1, 1) := by decide +kernel
theorem dX2_keepEvent_55 : decode cX2_keepEvent 55 = .ok (.iadd, 1) := by decide +kernel
theorem dX2_keepEvent_56 : decode cX2_keepEvent 56 = .ok (.putfield 33, 3) := by decide +kernel
theorem dX2_keepEvent_59 : decode cX2_keepEvent 59 = .ok (.return_, 1) := by decide +kernel
theorem dX3_init_0 : decode cX3_init 0 = .ok (.aload_n 0, 1) := by decide +kernel
theorem dX3_init_1 : decode cX3_init 1 = .ok (.invokespecial 1, 3) := by decide +kernel
theorem dX3_init_4 : decode cX3_init 4 = .ok (.aload_n 0, 1) := by decide +kernel
theorem dX3_init_5 : decode cX3_init 5 = .ok (.lconst 0, 1) := by decide +kernel
theorem dX3_init_6 : decode cX3_init 6 = .ok (.putfield 7, 3) := by decide +kernel
theorem dX3_init_9 : decode cX3_init 9 = .ok (.aload_n 0, 1) := by decide +kernel
theorem dX3_init_10 : decode cX3_init 10 = .ok (.lconst 1, 1) := by decide +kernel
theorem dX3_init_11 : decode cX3_init 11 = .ok (.putfield 13, 3) := by decide +kernel
theorem dX3_init_14 : decode cX3_init 14 = .ok (.aload_n 0, 1) := by decide +kernel
theorem dX3_init_15 : decode cX3_init 15 = .ok (.iconst 0, 1) := by decide +kernel
theorem dX3_init_16 : decode cX3_init 16 = .ok (.putfield 16, 3) := by decide +kernel
theorem dX3_init_19 : decode cX3_init 19 = .ok (.return_, 1) := by decide +kernel
theorem dX3_set_0 : decode cX3_set 0 = .ok (.aload_n 0, 1) := by decide +kernel
theorem dX3_set_1 : decode cX3_set 1 = .ok (.iconst 0, 1) := by decide +kernel
theorem dX3_set_2 : decode cX3_set 2 = .ok (.putfield 16, 3) := by decide +kernel
theorem dX3_set_5 : decode cX3_set 5 = .ok (.aload_n 0, 1) := by decide +kernel
theorem dX3_set_6 : decode cX3_set 6 = .ok (.lload_n 1, 1) := by decide +kernel
theorem dX3_set_7 : decode cX3_set 7 = .ok (.lload_n 3, 1) := by decide +kernel
theorem dX3_set_8 : decode cX3_set 8 = .ok (.invokevirtual 20, 3) := by decide +kernel
theorem dX3_set_11 : decode cX3_set 11 = .ok (.return_, 1) := by decide +kernel
theorem dX3_reduce_0 : decode cX3_reduce 0 = .ok (.lload_n 1, 1) := by decide +kernel
theorem dX3_reduce_1 : decode cX3_reduce 1 = .ok (.lload_n 3, 1) := by decide +kernel
theorem dX3_reduce_2 : decode cX3_reduce 2 = .ok (.invokestatic 24, 3) := by decide +kernel
theorem dX3_reduce_5 : decode cX3_reduce 5 = .ok (.lstore 5, 2) := by decide +kernel
theorem dX3_reduce_7 : decode cX3_reduce 7 = .ok (.lload_n 3, 1) := by decide +kernel
theorem dX3_reduce_8 : decode cX3_reduce 8 = .ok (.lconst 0, 1) := by decide +kernel
theorem dX3_reduce_9 : decode cX3_reduce 9 = .ok (.lcmp, 1) := by decide +kernel
theorem dX3_reduce_10 : decode cX3_reduce 10 = .ok (.ifCond .eq 10, 3) := by decide +kernel
theorem dX3_reduce_13 : decode cX3_reduce 13 = .ok (.lload 5, 2) := by decide +kernel
theorem dX3_reduce_15 : decode cX3_reduce 15 = .ok (.lconst 0, 1) := by decide +kernel
theorem dX3_reduce_16 : decode cX3_reduce 16 = .ok (.lcmp, 1) := by decide +kernel
theorem dX3_reduce_17 : decode cX3_reduce 17 = .ok (.ifCond .ne 19, 3) := by decide +kernel
theorem dX3_reduce_20 : decode cX3_reduce 20 = .ok (.aload_n 0, 1) := by decide +kernel
theorem dX3_reduce_21 : decode cX3_reduce 21 = .ok (.lconst 0, 1) := by decide +kernel
theorem dX3_reduce_22 : decode cX3_reduce 22 = .ok (.putfield 7, 3) := by decide +kernel
theorem dX3_reduce_25 : decode cX3_reduce 25 = .ok (.aload_n 0, 1) := by decide +kernel
theorem dX3_reduce_26 : decode cX3_reduce 26 = .ok (.lconst 1, 1) := by decide +kernel
theorem dX3_reduce_27 : decode cX3_reduce 27 = .ok (.putfield 13, 3) := by decide +kernel
theorem dX3_reduce_30 : decode cX3_reduce 30 = .ok (.aload_n 0, 1) := by decide +kernel
theorem dX3_reduce_31 : decode cX3_reduce 31 = .ok (.iconst 1, 1) := by decide +kernel
theorem dX3_reduce_32 : decode cX3_reduce 32 = .ok (.putfield 16, 3) := by decide +kernel
theorem dX3_reduce_35 : decode cX3_reduce 35 = .ok (.return_, 1) := by decide +kernel
theorem dX3_reduce_36 : decode cX3_reduce 36 = .ok (.aload_n 0, 1) := by decide +kernel
theorem dX3_reduce_37 : decode cX3_reduce 37 = .ok (.lload_n 3, 1) := by decide +kernel
theorem dX3_reduce_38 : decode cX3_reduce 38 = .ok (.lconst 0, 1) := by decide +kernel
theorem dX3_reduce_39 : decode cX3_reduce 39 = .ok (.lcmp, 1) := by decide +kernel
theorem dX3_reduce_40 : decode cX3_reduce 40 = .ok (.ifCond .ge 11, 3) := by decide +kernel
theorem dX3_reduce_43 : decode cX3_reduce 43 = .ok (.lload_n 1, 1) := by decide +kernel
theorem dX3_reduce_44 : decode cX3_reduce 44 = .ok (.lneg, 1) := by decide +kernel
theorem dX3_reduce_45 : decode cX3_reduce 45 = .ok (.lload 5, 2) := by decide +kernel
theorem dX3_reduce_47 : decode cX3_reduce 47 = .ok (.ldiv, 1) := by decide +kernel
theorem dX3_reduce_48 : decode cX3_reduce 48 = .ok (.goto 7, 3) := by decide +kernel
theorem dX3_reduce_51 : decode cX3_reduce 51 = .ok (.lload_n 1, 1) := by decide +kernel
theorem dX3_reduce_52 : decode cX3_reduce 52 = .ok (.lload 5, 2) := by decide +kernel
theorem dX3_reduce_54 : decode cX3_reduce 54 = .ok (.ldiv, 1) := by decide +kernel
theorem dX3_reduce_55 : decode cX3_reduce 55 = .ok (.putfield 7, 3) := by decide +kernel
theorem dX3_reduce_58 : decode cX3_reduce 58 = .ok (.aload_n 0, 1) := by decide +kernel
theorem dX3_reduce_59 : decode cX3_reduce 59 = .ok (.lload_n 3, 1) := by decide +kernel
theorem dX3_reduce_60 : decode cX3_reduce 60 = .ok (.invokestatic 28, 3) := by decide +kernel
theorem dX3_reduce_63 : decode cX3_reduce 63 = .ok (.lload 5, 2) := by decide +kernel
theorem dX3_reduce_65 : decode cX3_reduce 65 = .ok (.ldiv, 1) := by decide +kernel
theorem dX3_reduce_66 : decode cX3_reduce 66 = .ok (.putfield 13, 3) := by decide +kernel
theorem dX3_reduce_69 : decode cX3_reduce 69 = .ok (.return_, 1) := by decide +kernel
theorem dX3_copy_0 : decode cX3_copy 0 = .ok (.aload_n 0, 1) := by decide +kernel
theorem dX3_copy_1 : decode cX3_copy 1 = .ok (.aload_n 1, 1) := by decide +kernel
theorem dX3_copy_2 : decode cX3_copy 2 = .ok (.getfield 7, 3) := by decide +kernel
theorem dX3_copy_5 : decode cX3_copy 5 = .ok (.putfield 7, 3) := by decide +kernel
theorem dX3_copy_8 : decode cX3_copy 8 = .ok (.aload_n 0, 1) := by decide +kernel
theorem dX3_copy_9 : decode cX3_copy 9 = .ok (.aload_n 1, 1) := by decide +kernel
theorem dX3_copy_10 : decode cX3_copy 10 = .ok (.getfield 13, 3) := by decide +kernel
theorem dX3_copy_13 : decode cX3_copy 13 = .ok (.putfield 13, 3) := by decide +kernel
theorem dX3_copy_16 : decode cX3_copy 16 = .ok (.aload_n 0, 1) := by decide +kernel
theorem dX3_copy_17 : decode cX3_copy 17 = .ok (.aload_n 1, 1) := by decide +kernel
theorem dX3_copy_18 : decode cX3_copy 18 = .ok (.getfield 16, 3) := by decide +kernel
theorem dX3_copy_21 : decode cX3_copy 21 = .ok (.putfield 16, 3) := by decide +kernel
theorem dX3_copy_24 : decode cX3_copy 24 = .ok (.return_, 1) := by decide +kernel
theorem dX3_number_0 : decode cX3_number 0 = .ok (.iload_n 1, 1) := by decide +kernel
theorem dX3_number_1 : decode cX3_number 1 = .ok (.ifCond .ne 10, 3) := by decide +kernel
theorem dX3_number_4 : decode cX3_number 4 = .ok (.aload_n 0, 1) := by decide +kernel
theorem dX3_number_5 : decode cX3_number 5 = .ok (.getfield 7, 3) := by decide +kernel
theorem dX3_number_8 : decode cX3_number 8 = .ok (.goto 7, 3) := by decide +kernel
theorem dX3_number_11 : decode cX3_number 11 = .ok (.aload_n 0, 1) := by decide +kernel
theorem dX3_number_12 : decode cX3_number 12 = .ok (.getfield 13, 3) := by decide +kernel
theorem dX3_number_15 : decode cX3_number 15 = .ok (.lreturn, 1) := by decide +kernel
theorem dX3_add_0 : decode cX3_add 0 = .ok (.aload_n 0, 1) := by decide +kernel
theorem dX3_add_1 : decode cX3_add 1 = .ok (.getfield 13, 3) := by decide +kernel
theorem dX3_add_4 : decode cX3_add 4 = .ok (.lload_n 3, 1) := by decide +kernel
theorem dX3_add_5 : decode cX3_add 5 = .ok (.invokestatic 24, 3) := by decide +kernel
theorem dX3_add_8 : decode cX3_add 8 = .ok (.lstore 5, 2) := by decide +kernel
theorem dX3_add_10 : decode cX3_add 10 = .ok (.aload_n 0, 1) := by decide +kernel
theorem dX3_add_11 : decode cX3_add 11 = .ok (.getfield 16, 3) := by decide +kernel
theorem dX3_add_14 : decode cX3_add 14 = .ok (.ifCond .ne 10, 3) := by decide +kernel
theorem dX3_add_17 : decode cX3_add 17 = .ok (.lload 5, 2) := by decide +kernel
theorem dX3_add_19 : decode cX3_add 19 = .ok (.lconst 0, 1) := by decide +kernel
theorem dX3_add_20 : decode cX3_add 20 = .ok (.lcmp, 1) := by decide +kernel
theorem dX3_add_21 : decode cX3_add 21 = .ok (.ifCond .ne 9, 3) := by decide +kernel
theorem dX3_add_24 : decode cX3_add 24 = .ok (.aload_n 0, 1) := by decide +kernel
theorem dX3_add_25 : decode cX3_add 25 = .ok (.iconst 1, 1) := by decide +kernel
theorem dX3_add_26 : decode cX3_add 26 = .ok (.putfield 16, 3) := by decide +kernel
theorem dX3_add_29 : decode cX3_add 29 = .ok (.return_, 1) := by decide +kernel
theorem dX3_add_30 : decode cX3_add 30 = .ok (.aload_n 0, 1) := by decide +kernel
theorem dX3_add_31 : decode cX3_add 31 = .ok (.aload_n 0, 1) := by decide +kernel
theorem dX3_add_32 : decode cX3_add 32 = .ok (.getfield 7, 3) := by decide +kernel
theorem dX3_add_35 : decode cX3_add 35 = .ok (.lload_n 3, 1) := by decide +kernel
theorem dX3_add_36 : decode cX3_add 36 = .ok (.lload 5, 2) := by decide +kernel
theorem dX3_add_38 : decode cX3_add 38 = .ok (.ldiv, 1) := by decide +kernel
theorem dX3_add_39 : decode cX3_add 39 = .ok (.invokevirtual 34, 3) := by decide +kernel
theorem dX3_add_42 : decode cX3_add 42 = .ok (.lstore 7, 2) := by decide +kernel
theorem dX3_add_44 : decode cX3_add 44 = .ok (.aload_n 0, 1) := by decide +kernel
theorem dX3_add_45 : decode cX3_add 45 = .ok (.lload_n 1, 1) := by decide +kernel
theorem dX3_add_46 : decode cX3_add 46 = .ok (.aload_n 0, 1) := by decide +kernel
theorem dX3_add_47 : decode cX3_add 47 = .ok (.getfield 13, 3) := by decide +kernel
theorem dX3_add_50 : decode cX3_add 50 = .ok (.lload 5, 2) := by decide +kernel
theorem dX3_add_52 : decode cX3_add 52 = .ok (.ldiv, 1) := by decide +kernel
theorem dX3_add_53 : decode cX3_add 53 = .ok (.invokevirtual 34, 3) := by decide +kernel
theorem dX3_add_56 : decode cX3_add 56 = .ok (.lstore 9, 2) := by decide +kernel
theorem dX3_add_58 : decode cX3_add 58 = .ok (.aload_n 0, 1) := by decide +kernel
theorem dX3_add_59 : decode cX3_add 59 = .ok (.aload_n 0, 1) := by decide +kernel
theorem dX3_add_60 : decode cX3_add 60 = .ok (.getfield 13, 3) := by decide +kernel
theorem dX3_add_63 : decode cX3_add 63 = .ok (.lload_n 3, 1) := by decide +kernel
theorem dX3_add_64 : decode cX3_add 64 = .ok (.lload 5, 2) := by decide +kernel
theorem dX3_add_66 : decode cX3_add 66 = .ok (.ldiv, 1) := by decide +kernel
theorem dX3_add_67 : decode cX3_add 67 = .ok (.invokevirtual 34, 3) := by decide +kernel
theorem dX3_add_70 : decode cX3_add 70 = .ok (.lstore 11, 2) := by decide +kernel
theorem dX3_add_72 : decode cX3_add 72 = .ok (.lload 7, 2) := by decide +kernel
theorem dX3_add_74 : decode cX3_add 74 = .ok (.lload 9, 2) := by decide +kernel
theorem dX3_add_76 : decode cX3_add 76 = .ok (.ladd, 1) := by decide +kernel
theorem dX3_add_77 : decode cX3_add 77 = .ok (.invokestatic 28, 3) := by decide +kernel
theorem dX3_add_80 : decode cX3_add 80 = .ok (.ldc2_w 37, 3) := by decide +kernel
theorem dX3_add_83 : decode cX3_add 83 = .ok (.lcmp, 1) := by decide +kernel
theorem dX3_add_84 : decode cX3_add 84 = .ok (.ifCond .le 8, 3) := by decide +kernel
theorem dX3_add_87 : decode cX3_add 87 = .ok (.aload_n 0, 1) := by decide +kernel
theorem dX3_add_88 : decode cX3_add 88 = .ok (.iconst 1, 1) := by decide +kernel
theorem dX3_add_89 : decode cX3_add 89 = .ok (.putfield 16, 3) := by decide +kernel
theorem dX3_add_92 : decode cX3_add 92 = .ok (.aload_n 0, 1) := by decide +kernel
theorem dX3_add_93 : decode cX3_add 93 = .ok (.getfield 16, 3) := by decide +kernel
theorem dX3_add_96 : decode cX3_add 96 = .ok (.ifCond .ne 14, 3) := by decide +kernel
theorem dX3_add_99 : decode cX3_add 99 = .ok (.aload_n 0, 1) := by decide +kernel
theorem dX3_add_100 : decode cX3_add 100 = .ok (.lload 7, 2) := by decide +kernel
theorem dX3_add_102 : decode cX3_add 102 = .ok (.lload 9, 2) := by decide +kernel
theorem dX3_add_104 : decode cX3_add 104 = .ok (.ladd, 1) := by decide +kernel
theorem dX3_add_105 : decode cX3_add 105 = .ok (.lload 11, 2) := by decide +kernel
theorem dX3_add_107 : decode cX3_add 107 = .ok (.invokevirtual 20, 3) := by decide +kernel
theorem dX3_add_110 : decode cX3_add 110 = .ok (.return_, 1) := by decide +kernel
theorem dX3_times_0 : decode cX3_times 0 = .ok (.aload_n 0, 1) := by decide +kernel
theorem dX3_times_1 : decode cX3_times 1 = .ok (.getfield 7, 3) := by decide +kernel
theorem dX3_times_4 : decode cX3_times 4 = .ok (.lload_n 3, 1) := by decide +kernel
theorem dX3_times_5 : decode cX3_times 5 = .ok (.invokestatic 24, 3) := by decide +kernel
theorem dX3_times_8 : decode cX3_times 8 = .ok (.lstore 5, 2) := by decide +kernel
theorem dX3_times_10 : decode cX3_times 10 = .ok (.lload_n 1, 1) := by decide +kernel
theorem dX3_times_11 : decode cX3_times 11 = .ok (.aload_n 0, 1) := by decide +kernel
theorem dX3_times_12 : decode cX3_times 12 = .ok (.getfield 13, 3) := by decide +kernel
theorem dX3_times_15 : decode cX3_times 15 = .ok (.invokestatic 24, 3) := by decide +kernel
theorem dX3_times_18 : decode cX3_times 18 = .ok (.lstore 7, 2) := by decide +kernel
theorem dX3_times_20 : decode cX3_times 20 = .ok (.aload_n 0, 1) := by decide +kernel
theorem dX3_times_21 : decode cX3_times 21 = .ok (.getfield 16, 3) := by decide +kernel
theorem dX3_times_24 : decode cX3_times 24 = .ok (.ifCond .ne 17, 3) := by decide +kernel
theorem dX3_times_27 : decode cX3_times 27 = .ok (.lload 5, 2) := by decide +kernel
theorem dX3_times_29 : decode cX3_times 29 = .ok (.lconst 0, 1) := by decide +kernel
theorem dX3_times_30 : decode cX3_times 30 = .ok (.lcmp, 1) := by decide +kernel
theorem dX3_times_31 : decode cX3_times 31 = .ok (.ifCond .eq 10, 3) := by decide +kernel
theorem dX3_times_34 : decode cX3_times 34 = .ok (.lload 7, 2) := by decide +kernel
theorem dX3_times_36 : decode cX3_times 36 = .ok (.lconst 0, 1) := by decide +kernel
theorem dX3_times_37 : decode cX3_times 37 = .ok (.lcmp, 1) := by decide +kernel
theorem dX3_times_38 : decode cX3_times 38 = .ok (.ifCond .ne 9, 3) := by decide +kernel
theorem dX3_times_41 : decode cX3_times 41 = .ok (.aload_n 0, 1) := by decide +kernel
theorem dX3_times_42 : decode cX3_times 42 = .ok (.iconst 1, 1) := by decide +kernel
theorem dX3_times_43 : decode cX3_times 43 = .ok (.putfield 16, 3) := by decide +kernel
theorem dX3_times_46 : decode cX3_times 46 = .ok (.return_, 1) := by decide +kernel
theorem dX3_times_47 : decode cX3_times 47 = .ok (.aload_n 0, 1) := by decide +kernel
theorem dX3_times_48 : decode cX3_times 48 = .ok (.aload_n 0, 1) := by decide +kernel
theorem dX3_times_49 : decode cX3_times 49 = .ok (.getfield 7, 3) := by decide +kernel
theorem dX3_times_52 : decode cX3_times 52 = .ok (.lload 5, 2) := by decide +kernel
theorem dX3_times_54 : decode cX3_times 54 = .ok (.ldiv, 1) := by decide +kernel
theorem dX3_times_55 : decode cX3_times 55 = .ok (.lload_n 1, 1) := by decide +kernel
theorem dX3_times_56 : decode cX3_times 56 = .ok (.lload 7, 2) := by decide +kernel
theorem dX3_times_58 : decode cX3_times 58 = .ok (.ldiv, 1) := by decide +kernel
theorem dX3_times_59 : decode cX3_times 59 = .ok (.invokevirtual 34, 3) := by decide +kernel
theorem dX3_times_62 : decode cX3_times 62 = .ok (.lstore 9, 2) := by decide +kernel
theorem dX3_times_64 : decode cX3_times 64 = .ok (.aload_n 0, 1) := by decide +kernel
theorem dX3_times_65 : decode cX3_times 65 = .ok (.aload_n 0, 1) := by decide +kernel
theorem dX3_times_66 : decode cX3_times 66 = .ok (.getfield 13, 3) := by decide +kernel
theorem dX3_times_69 : decode cX3_times 69 = .ok (.lload 7, 2) := by decide +kernel
theorem dX3_times_71 : decode cX3_times 71 = .ok (.ldiv, 1) := by decide +kernel
theorem dX3_times_72 : decode cX3_times 72 = .ok (.lload_n 3, 1) := by decide +kernel
theorem dX3_times_73 : decode cX3_times 73 = .ok (.lload 5, 2) := by decide +kernel
theorem dX3_times_75 : decode cX3_times 75 = .ok (.ldiv, 1) := by decide +kernel
theorem dX3_times_76 : decode cX3_times 76 = .ok (.invokevirtual 34, 3) := by decide +kernel
theorem dX3_times_79 : decode cX3_times 79 = .ok (.lstore 11, 2) := by decide +kernel
theorem dX3_times_81 : decode cX3_times 81 = .ok (.aload_n 0, 1) := by decide +kernel
theorem dX3_times_82 : decode cX3_times 82 = .ok (.getfield 16, 3) := by decide +kernel
theorem dX3_times_85 : decode cX3_times 85 = .ok (.ifCond .ne 15, 3) := by decide +kernel
theorem dX3_times_88 : decode cX3_times 88 = .ok (.aload_n 0, 1) := by decide +kernel
theorem dX3_times_89 : decode cX3_times 89 = .ok (.lload 9, 2) := by decide +kernel
theorem dX3_times_91 : decode cX3_times 91 = .ok (.putfield 7, 3) := by decide +kernel
theorem dX3_times_94 : decode cX3_times 94 = .ok (.aload_n 0, 1) := by decide +kernel
theorem dX3_times_95 : decode cX3_times 95 = .ok (.lload 11, 2) := by decide +kernel
theorem dX3_times_97 : decode cX3_times 97 = .ok (.putfield 13, 3) := by decide +kernel
theorem dX3_times_100 : decode cX3_times 100 = .ok (.return_, 1) := by decide +kernel
theorem dX3_checked_0 : decode cX3_checked 0 = .ok (.lload_n 3, 1) := by decide +kernel
theorem dX3_checked_1 : decode cX3_checked 1 = .ok (.lconst 0, 1) := by decide +kernel
theorem dX3_checked_2 : decode cX3_checked 2 = .ok (.lcmp, 1) := by decide +kernel
theorem dX3_checked_3 : decode cX3_checked 3 = .ok (.ifCond .eq 26, 3) := by decide +kernel
theorem dX3_checked_6 : decode cX3_checked 6 = .ok (.lload_n 1, 1) := by decide +kernel
theorem dX3_checked_7 : decode cX3_checked 7 = .ok (.invokestatic 28, 3) := by decide +kernel
theorem dX3_checked_10 : decode cX3_checked 10 = .ok (.ldc2_w 37, 3) := by decide +kernel
theorem dX3_checked_13 : decode cX3_checked 13 = .ok (.lload_n 3, 1) := by decide +kernel
theorem dX3_checked_14 : decode cX3_checked 14 = .ok (.invokestatic 28, 3) := by decide +kernel
theorem dX3_checked_17 : decode cX3_checked 17 = .ok (.ldiv, 1) := by decide +kernel
theorem dX3_checked_18 : decode cX3_checked 18 = .ok (.lcmp, 1) := by decide +kernel
theorem dX3_checked_19 : decode cX3_checked 19 = .ok (.ifCond .le 10, 3) := by decide +kernel
theorem dX3_checked_22 : decode cX3_checked 22 = .ok (.aload_n 0, 1) := by decide +kernel
theorem dX3_checked_23 : decode cX3_checked 23 = .ok (.iconst 1, 1) := by decide +kernel
theorem dX3_checked_24 : decode cX3_checked 24 = .ok (.putfield 16, 3) := by decide +kernel
theorem dX3_checked_27 : decode cX3_checked 27 = .ok (.lconst 0, 1) := by decide +kernel
theorem dX3_checked_28 : decode cX3_checked 28 = .ok (.lreturn, 1) := by decide +kernel
theorem dX3_checked_29 : decode cX3_checked 29 = .ok (.lload_n 1, 1) := by decide +kernel
theorem dX3_checked_30 : decode cX3_checked 30 = .ok (.lload_n 3, 1) := by decide +kernel
theorem dX3_checked_31 : decode cX3_checked 31 = .ok (.lmul, 1) := by decide +kernel
theorem dX3_checked_32 : decode cX3_checked 32 = .ok (.lreturn, 1) := by decide +kernel
theorem dX3_isAbove_0 : decode cX3_isAbove 0 = .ok (.lload_n 3, 1) := by decide +kernel
theorem dX3_isAbove_1 : decode cX3_isAbove 1 = .ok (.lconst 0, 1) := by decide +kernel
theorem dX3_isAbove_2 : decode cX3_isAbove 2 = .ok (.lcmp, 1) := by decide +kernel
theorem dX3_isAbove_3 : decode cX3_isAbove 3 = .ok (.ifCond .le 12, 3) := by decide +kernel
theorem dX3_isAbove_6 : decode cX3_isAbove 6 = .ok (.aload_n 0, 1) := by decide +kernel
theorem dX3_isAbove_7 : decode cX3_isAbove 7 = .ok (.getfield 13, 3) := by decide +kernel
theorem dX3_isAbove_10 : decode cX3_isAbove 10 = .ok (.lconst 0, 1) := by decide +kernel
theorem dX3_isAbove_11 : decode cX3_isAbove 11 = .ok (.lcmp, 1) := by decide +kernel
theorem dX3_isAbove_12 : decode cX3_isAbove 12 = .ok (.ifCond .gt 5, 3) := by decide +kernel
theorem dX3_isAbove_15 : decode cX3_isAbove 15 = .ok (.iconst 0, 1) := by decide +kernel
theorem dX3_isAbove_16 : decode cX3_isAbove 16 = .ok (.ireturn, 1) := by decide +kernel
theorem dX3_isAbove_17 : decode cX3_isAbove 17 = .ok (.aload_n 0, 1) := by decide +kernel
theorem dX3_isAbove_18 : decode cX3_isAbove 18 = .ok (.getfield 7, 3) := by decide +kernel
theorem dX3_isAbove_21 : decode cX3_isAbove 21 = .ok (.aload_n 0, 1) := by decide +kernel
theorem dX3_isAbove_22 : decode cX3_isAbove 22 = .ok (.getfield 13, 3) := by decide +kernel
theorem dX3_isAbove_25 : decode cX3_isAbove 25 = .ok (.ldiv, 1) := by decide +kernel
theorem dX3_isAbove_26 : decode cX3_isAbove 26 = .ok (.lload_n 1, 1) := by decide +kernel
theorem dX3_isAbove_27 : decode cX3_isAbove 27 = .ok (.lload_n 3, 1) := by decide +kernel
theorem dX3_isAbove_28 : decode cX3_isAbove 28 = .ok (.ldiv, 1) := by decide +kernel
theorem dX3_isAbove_29 : decode cX3_isAbove 29 = .ok (.lcmp, 1) := by decide +kernel
theorem dX3_isAbove_30 : decode cX3_isAbove 30 = .ok (.ifCond .eq 25, 3) := by decide +kernel
theorem dX3_isAbove_33 : decode cX3_isAbove 33 = .ok (.aload_n 0, 1) := by decide +kernel
theorem dX3_isAbove_34 : decode cX3_isAbove 34 = .ok (.getfield 7, 3) := by decide +kernel
theorem dX3_isAbove_37 : decode cX3_isAbove 37 = .ok (.aload_n 0, 1) := by decide +kernel
theorem dX3_isAbove_38 : decode cX3_isAbove 38 = .ok (.getfield 13, 3) := by decide +kernel
theorem dX3_isAbove_41 : decode cX3_isAbove 41 = .ok (.ldiv, 1) := by decide +kernel
theorem dX3_isAbove_42 : decode cX3_isAbove 42 = .ok (.lload_n 1, 1) := by decide +kernel
theorem dX3_isAbove_43 : decode cX3_isAbove 43 = .ok (.lload_n 3, 1) := by decide +kernel
theorem dX3_isAbove_44 : decode cX3_isAbove 44 = .ok (.ldiv, 1) := by decide +kernel
theorem dX3_isAbove_45 : decode cX3_isAbove 45 = .ok (.lcmp, 1) := by decide +kernel
theorem dX3_isAbove_46 : decode cX3_isAbove 46 = .ok (.ifCond .le 7, 3) := by decide +kernel
theorem dX3_isAbove_49 : decode cX3_isAbove 49 = .ok (.iconst 1, 1) := by decide +kernel
theorem dX3_isAbove_50 : decode cX3_isAbove 50 = .ok (.goto 4, 3) := by decide +kernel
theorem dX3_isAbove_53 : decode cX3_isAbove 53 = .ok (.iconst 0, 1) := by decide +kernel
theorem dX3_isAbove_54 : decode cX3_isAbove 54 = .ok (.ireturn, 1) := by decide +kernel
theorem dX3_isAbove_55 : decode cX3_isAbove 55 = .ok (.aload_n 0, 1) := by decide +kernel
theorem dX3_isAbove_56 : decode cX3_isAbove 56 = .ok (.getfield 7, 3) := by decide +kernel
theorem dX3_isAbove_59 : decode cX3_isAbove 59 = .ok (.aload_n 0, 1) := by decide +kernel
theorem dX3_isAbove_60 : decode cX3_isAbove 60 = .ok (.getfield 13, 3) := by decide +kernel
theorem dX3_isAbove_63 : decode cX3_isAbove 63 = .ok (.lrem, 1) := by decide +kernel
theorem dX3_isAbove_64 : decode cX3_isAbove 64 = .ok (.lload_n 3, 1) := by decide +kernel
theorem dX3_isAbove_65 : decode cX3_isAbove 65 = .ok (.lmul, 1) := by decide +kernel
theorem dX3_isAbove_66 : decode cX3_isAbove 66 = .ok (.lload_n 1, 1) := by decide +kernel
theorem dX3_isAbove_67 : decode cX3_isAbove 67 = .ok (.lload_n 3, 1) := by decide +kernel
theorem dX3_isAbove_68 : decode cX3_isAbove 68 = .ok (.lrem, 1) := by decide +kernel
theorem dX3_isAbove_69 : decode cX3_isAbove 69 = .ok (.aload_n 0, 1) := by decide +kernel
theorem dX3_isAbove_70 : decode cX3_isAbove 70 = .ok (.getfield 13, 3) := by decide +kernel
theorem dX3_isAbove_73 : decode cX3_isAbove 73 = .ok (.lmul, 1) := by decide +kernel
theorem dX3_isAbove_74 : decode cX3_isAbove 74 = .ok (.lcmp, 1) := by decide +kernel
theorem dX3_isAbove_75 : decode cX3_isAbove 75 = .ok (.ifCond .le 7, 3) := by decide +kernel
theorem dX3_isAbove_78 : decode cX3_isAbove 78 = .ok (.iconst 1, 1) := by decide +kernel
theorem dX3_isAbove_79 : decode cX3_isAbove 79 = .ok (.goto 4, 3) := by decide +kernel
theorem dX3_isAbove_82 : decode cX3_isAbove 82 = .ok (.iconst 0, 1) := by decide +kernel
theorem dX3_isAbove_83 : decode cX3_isAbove 83 = .ok (.ireturn, 1) := by decide +kernel
theorem dX3_gcd_0 : decode cX3_gcd 0 = .ok (.lload_n 0, 1) := by decide +kernel
theorem dX3_gcd_1 : decode cX3_gcd 1 = .ok (.invokestatic 28, 3) := by decide +kernel
theorem dX3_gcd_4 : decode cX3_gcd 4 = .ok (.lstore 4, 2) := by decide +kernel
theorem dX3_gcd_6 : decode cX3_gcd 6 = .ok (.lload_n 2, 1) := by decide +kernel
theorem dX3_gcd_7 : decode cX3_gcd 7 = .ok (.invokestatic 28, 3) := by decide +kernel
theorem dX3_gcd_10 : decode cX3_gcd 10 = .ok (.lstore 6, 2) := by decide +kernel
theorem dX3_gcd_12 : decode cX3_gcd 12 = .ok (.iconst 0, 1) := by decide +kernel
theorem dX3_gcd_13 : decode cX3_gcd 13 = .ok (.istore 8, 2) := by decide +kernel
theorem dX3_gcd_15 : decode cX3_gcd 15 = .ok (.iload 8, 2) := by decide +kernel
theorem dX3_gcd_17 : decode cX3_gcd 17 = .ok (.bipush 100, 2) := by decide +kernel
theorem dX3_gcd_19 : decode cX3_gcd 19 = .ok (.if_icmp .ge 31, 3) := by decide +kernel
theorem dX3_gcd_22 : decode cX3_gcd 22 = .ok (.lload 6, 2) := by decide +kernel
theorem dX3_gcd_24 : decode cX3_gcd 24 = .ok (.lconst 0, 1) := by decide +kernel
theorem dX3_gcd_25 : decode cX3_gcd 25 = .ok (.lcmp, 1) := by decide +kernel
theorem dX3_gcd_26 : decode cX3_gcd 26 = .ok (.ifCond .eq 24, 3) := by decide +kernel
theorem dX3_gcd_29 : decode cX3_gcd 29 = .ok (.lload 4, 2) := by decide +kernel
theorem dX3_gcd_31 : decode cX3_gcd 31 = .ok (.lload 6, 2) := by decide +kernel
theorem dX3_gcd_33 : decode cX3_gcd 33 = .ok (.lrem, 1) := by decide +kernel
theorem dX3_gcd_34 : decode cX3_gcd 34 = .ok (.lstore 9, 2) := by decide +kernel
theorem dX3_gcd_36 : decode cX3_gcd 36 = .ok (.lload 6, 2) := by decide +kernel
theorem dX3_gcd_38 : decode cX3_gcd 38 = .ok (.lstore 4, 2) := by decide +kernel
theorem dX3_gcd_40 : decode cX3_gcd 40 = .ok (.lload 9, 2) := by decide +kernel
theorem dX3_gcd_42 : decode cX3_gcd 42 = .ok (.lstore 6, 2) := by decide +kernel
theorem dX3_gcd_44 : decode cX3_gcd 44 = .ok (.iinc 8 1, 3) := by decide +kernel
theorem dX3_gcd_47 : decode cX3_gcd 47 = .ok (.goto (-32), 3) := by decide +kernel
theorem dX3_gcd_50 : decode cX3_gcd 50 = .ok (.lload 4, 2) := by decide +kernel
theorem dX3_gcd_52 : decode cX3_gcd 52 = .ok (.lreturn, 1) := by decide +kernel
theorem dX4_init_0 : decode cX4_init 0 = .ok (.aload_n 0, 1) := by decide +kernel
theorem dX4_init_1 : decode cX4_init 1 = .ok (.invokespecial 3, 3) := by decide +kernel
theorem dX4_init_4 : decode cX4_init 4 = .ok (.aload_n 0, 1) := by decide +kernel
theorem dX4_init_5 : decode cX4_init 5 = .ok (.bipush 24, 2) := by decide +kernel
theorem dX4_init_7 : decode cX4_init 7 = .ok (.newarray .int, 2) := by decide +kernel
theorem dX4_init_9 : decode cX4_init 9 = .ok (.putfield 9, 3) := by decide +kernel
theorem dX4_init_12 : decode cX4_init 12 = .ok (.aload_n 0, 1) := by decide +kernel
theorem dX4_init_13 : decode cX4_init 13 = .ok (.bipush 24, 2) := by decide +kernel
theorem dX4_init_15 : decode cX4_init 15 = .ok (.newarray .int, 2) := by decide +kernel
theorem dX4_init_17 : decode cX4_init 17 = .ok (.putfield 13, 3) := by decide +kernel
theorem dX4_init_20 : decode cX4_init 20 = .ok (.aload_n 0, 1) := by decide +kernel
theorem dX4_init_21 : decode cX4_init 21 = .ok (.bipush 80, 2) := by decide +kernel
theorem dX4_init_23 : decode cX4_init 23 = .ok (.newarray .int, 2) := by decide +kernel
theorem dX4_init_25 : decode cX4_init 25 = .ok (.putfield 16, 3) := by decide +kernel
theorem dX4_init_28 : decode cX4_init 28 = .ok (.aload_n 0, 1) := by decide +kernel
theorem dX4_init_29 : decode cX4_init 29 = .ok (.bipush 12, 2) := by decide +kernel
theorem dX4_init_31 : decode cX4_init 31 = .ok (.newarray .int, 2) := by decide +kernel
theorem dX4_init_33 : decode cX4_init 33 = .ok (.putfield 19, 3) := by decide +kernel
theorem dX4_init_36 : decode cX4_init 36 = .ok (.aload_n 0, 1) := by decide +kernel
theorem dX4_init_37 : decode cX4_init 37 = .ok (.bipush 12, 2) := by decide +kernel
theorem dX4_init_39 : decode cX4_init 39 = .ok (.newarray .int, 2) := by decide +kernel
theorem dX4_init_41 : decode cX4_init 41 = .ok (.putfield 22, 3) := by decide +kernel
theorem dX4_init_44 : decode cX4_init 44 = .ok (.aload_n 0, 1) := by decide +kernel
theorem dX4_init_45 : decode cX4_init 45 = .ok (.bipush 12, 2) := by decide +kernel
theorem dX4_init_47 : decode cX4_init 47 = .ok (.newarray .int, 2) := by decide +kernel
theorem dX4_init_49 : decode cX4_init 49 = .ok (.putfield 25, 3) := by decide +kernel
theorem dX4_init_52 : decode cX4_init 52 = .ok (.aload_n 0, 1) := by decide +kernel
theorem dX4_init_53 : decode cX4_init 53 = .ok (.sipush 1200, 3) := by decide +kernel
theorem dX4_init_56 : decode cX4_init 56 = .ok (.newarray .int, 2) := by decide +kernel
theorem dX4_init_58 : decode cX4_init 58 = .ok (.putfield 28, 3) := by decide +kernel
theorem dX4_init_61 : decode cX4_init 61 = .ok (.aload_n 0, 1) := by decide +kernel
theorem dX4_init_62 : decode cX4_init 62 = .ok (.bipush 32, 2) := by decide +kernel
theorem dX4_init_64 : decode cX4_init 64 = .ok (.bipush 13, 2) := by decide +kernel
theorem dX4_init_66 : decode cX4_init 66 = .ok (.multianewarray 31 2, 4) := by decide +kernel
theorem dX4_init_70 : decode cX4_init 70 = .ok (.putfield 33, 3) := by decide +kernel
theorem dX4_init_73 : decode cX4_init 73 = .ok (.aload_n 0, 1) := by decide +kernel
theorem dX4_init_74 : decode cX4_init 74 = .ok (.bipush 32, 2) := by decide +kernel
theorem dX4_init_76 : decode cX4_init 76 = .ok (.bipush 13, 2) := by decide +kernel
theorem dX4_init_78 : decode cX4_init 78 = .ok (.multianewarray 31 2, 4) := by decide +kernel
theorem dX4_init_82 : decode cX4_init 82 = .ok (.putfield 36, 3) := by decide +kernel
theorem dX4_init_85 : decode cX4_init 85 = .ok (.aload_n 0, 1) := by decide +kernel
theorem dX4_init_86 : decode cX4_init 86 = .ok (.bipush 12, 2) := by decide +kernel
theorem dX4_init_88 : decode cX4_init 88 = .ok (.newarray .int, 2) := by decide +kernel
theorem dX4_init_90 : decode cX4_init 90 = .ok (.putfield 39, 3) := by decide +kernel
theorem dX4_init_93 : decode cX4_init 93 = .ok (.aload_n 0, 1) := by decide +kernel
theorem dX4_init_94 : decode cX4_init 94 = .ok (.new 42, 3) := by decide +kernel
theorem dX4_init_97 : decode cX4_init 97 = .ok (.dup, 1) := by decide +kernel
theorem dX4_init_98 : decode cX4_init 98 = .ok (.invokespecial 44, 3) := by decide +kernel
theorem dX4_init_101 : decode cX4_init 101 = .ok (.putfield 45, 3) := by decide +kernel
theorem dX4_init_104 : decode cX4_init 104 = .ok (.aload_n 0, 1) := by decide +kernel
theorem dX4_init_105 : decode cX4_init 105 = .ok (.new 42, 3) := by decide +kernel
theorem dX4_init_108 : decode cX4_init 108 = .ok (.dup, 1) := by decide +kernel
theorem dX4_init_109 : decode cX4_init 109 = .ok (.invokespecial 44, 3) := by decide +kernel
theorem dX4_init_112 : decode cX4_init 112 = .ok (.putfield 49, 3) := by decide +kernel
theorem dX4_init_115 : decode cX4_init 115 = .ok (.aload_n 0, 1) := by decide +kernel
theorem dX4_init_116 : decode cX4_init 116 = .ok (.new 42, 3) := by decide +kernel
theorem dX4_init_119 : decode cX4_init 119 = .ok (.dup, 1) := by decide +kernel
theorem dX4_init_120 : decode cX4_init 120 = .ok (.invokespecial 44, 3) := by decide +kernel
theorem dX4_init_123 : decode cX4_init 123 = .ok (.putfield 52, 3) := by decide +kernel
theorem dX4_init_126 : decode cX4_init 126 = .ok (.return_, 1) := by decide +kernel
theorem dX4_addGear_0 : decode cX4_addGear 0 = .ok (.aload_n 0, 1) := by decide +kernel
theorem dX4_addGear_1 : decode cX4_addGear 1 = .ok (.getfield 55, 3) := by decide +kernel
theorem dX4_addGear_4 : decode cX4_addGear 4 = .ok (.bipush 24, 2) := by decide +kernel
theorem dX4_addGear_6 : decode cX4_addGear 6 = .ok (.if_icmp .lt 5, 3) := by decide +kernel
theorem dX4_addGear_9 : decode cX4_addGear 9 = .ok (.iconst (-1), 1) := by decide +kernel
theorem dX4_addGear_10 : decode cX4_addGear 10 = .ok (.ireturn, 1) := by decide +kernel
theorem dX4_addGear_11 : decode cX4_addGear 11 = .ok (.aload_n 0, 1) := by decide +kernel
theorem dX4_addGear_12 : decode cX4_addGear 12 = .ok (.getfield 9, 3) := by decide +kernel
theorem dX4_addGear_15 : decode cX4_addGear 15 = .ok (.aload_n 0, 1) := by decide +kernel
theorem dX4_addGear_16 : decode cX4_addGear 16 = .ok (.getfield 55, 3) := by decide +kernel
theorem dX4_addGear_19 : decode cX4_addGear 19 = .ok (.iload_n 1, 1) := by decide +kernel
theorem dX4_addGear_20 : decode cX4_addGear 20 = .ok (.iastore, 1) := by decide +kernel
theorem dX4_addGear_21 : decode cX4_addGear 21 = .ok (.aload_n 0, 1) := by decide +kernel
theorem dX4_addGear_22 : decode cX4_addGear 22 = .ok (.getfield 13, 3) := by decide +kernel
theorem dX4_addGear_25 : decode cX4_addGear 25 = .ok (.aload_n 0, 1) := by decide +kernel
theorem dX4_addGear_26 : decode cX4_addGear 26 = .ok (.getfield 55, 3) := by decide +kernel
theorem dX4_addGear_29 : decode cX4_addGear 29 = .ok (.iload_n 2, 1) := by decide +kernel
theorem dX4_addGear_30 : decode cX4_addGear 30 = .ok (.iastore, 1) := by decide +kernel
theorem dX4_addGear_31 : decode cX4_addGear 31 = .ok (.aload_n 0, 1) := by decide +kernel
theorem dX4_addGear_32 : decode cX4_addGear 32 = .ok (.dup, 1) := by decide +kernel
theorem dX4_addGear_33 : decode cX4_addGear 33 = .ok (.getfield 55, 3) := by decide +kernel
theorem dX4_addGear_36 : decode cX4_addGear 36 = .ok (.iconst 1, 1) := by decide +kernel
theorem dX4_addGear_37 : decode cX4_addGear 37 = .ok (.iadd, 1) := by decide +kernel
theorem dX4_addGear_38 : decode cX4_addGear 38 = .ok (.putfield 55, 3) := by decide +kernel
theorem dX4_addGear_41 : decode cX4_addGear 41 = .ok (.aload_n 0, 1) := by decide +kernel
theorem dX4_addGear_42 : decode cX4_addGear 42 = .ok (.getfield 55, 3) := by decide +kernel
theorem dX4_addGear_45 : decode cX4_addGear 45 = .ok (.iconst 1, 1) := by decide +kernel
theorem dX4_addGear_46 : decode cX4_addGear 46 = .ok (.isub, 1) := by decide +kernel
theorem dX4_addGear_47 : decode cX4_addGear 47 = .ok (.ireturn, 1) := by decide +kernel
theorem dX4_addMesh_0 : decode cX4_addMesh 0 = .ok (.aload_n 0, 1) := by decide +kernel
theorem dX4_addMesh_1 : decode cX4_addMesh 1 = .ok (.getfield 59, 3) := by decide +kernel
theorem dX4_addMesh_4 : decode cX4_addMesh 4 = .ok (.bipush 20, 2) := by decide +kernel
theorem dX4_addMesh_6 : decode cX4_addMesh 6 = .ok (.if_icmp .lt 5, 3) := by decide +kernel
theorem dX4_addMesh_9 : decode cX4_addMesh 9 = .ok (.iconst (-1), 1) := by decide +kernel
theorem dX4_addMesh_10 : decode cX4_addMesh 10 = .ok (.ireturn, 1) := by decide +kernel
theorem dX4_addMesh_11 : decode cX4_addMesh 11 = .ok (.iconst 4, 1) := by decide +kernel
theorem dX4_addMesh_12 : decode cX4_addMesh 12 = .ok (.aload_n 0, 1) := by decide +kernel
theorem dX4_addMesh_13 : decode cX4_addMesh 13 = .ok (.getfield 59, 3) := by decide +kernel
theorem dX4_addMesh_16 : decode cX4_addMesh 16 = .ok (.imul, 1) := by decide +kernel
theorem dX4_addMesh_17 : decode cX4_addMesh 17 = .ok (.istore 5, 2) := by decide +kernel
theorem dX4_addMesh_19 : decode cX4_addMesh 19 = .ok (.aload_n 0, 1) := by decide +kernel
theorem dX4_addMesh_20 : decode cX4_addMesh 20 = .ok (.getfield 16, 3) := by decide +kernel
theorem dX4_addMesh_23 : decode cX4_addMesh 23 = .ok (.iload 5, 2) := by decide +kernel
theorem dX4_addMesh_25 : decode cX4_addMesh 25 = .ok (.iload_n 1, 1) := by decide +kernel
theorem dX4_addMesh_26 : decode cX4_addMesh 26 = .ok (.iastore, 1) := by decide +kernel
theorem dX4_addMesh_27 : decode cX4_addMesh 27 = .ok (.aload_n 0, 1) := by decide +kernel
theorem dX4_addMesh_28 : decode cX4_addMesh 28 = .ok (.getfield 16, 3) := by decide +kernel
theorem dX4_addMesh_31 : decode cX4_addMesh 31 = .ok (.iload 5, 2) := by decide +kernel
theorem dX4_addMesh_33 : decode cX4_addMesh 33 = .ok (.iconst 1, 1) := by decide +kernel
theorem dX4_addMesh_34 : decode cX4_addMesh 34 = .ok (.iadd, 1) := by decide +kernel
theorem dX4_addMesh_35 : decode cX4_addMesh 35 = .ok (.iload_n 2, 1) := by decide +kernel
theorem dX4_addMesh_36 : decode cX4_addMesh 36 = .ok (.iastore, 1) := by decide +kernel
theorem dX4_addMesh_37 : decode cX4_addMesh 37 = .ok (.aload_n 0, 1) := by decide +kernel
theorem dX4_addMesh_38 : decode cX4_addMesh 38 = .ok (.getfield 16, 3) := by decide +kernel
theorem dX4_addMesh_41 : decode cX4_addMesh 41 = .ok (.iload 5, 2) := by decide +kernel
theorem dX4_addMesh_43 : decode cX4_addMesh 43 = .ok (.iconst 2, 1) := by decide +kernel
theorem dX4_addMesh_44 : decode cX4_addMesh 44 = .ok (.iadd, 1) := by decide +kernel
theorem dX4_addMesh_45 : decode cX4_addMesh 45 = .ok (.iload_n 3, 1) := by decide +kernel
theorem dX4_addMesh_46 : decode cX4_addMesh 46 = .ok (.ifCond .eq 7, 3) := by decide +kernel
theorem dX4_addMesh_49 : decode cX4_addMesh 49 = .ok (.iconst (-1), 1) := by decide +kernel
theorem dX4_addMesh_50 : decode cX4_addMesh 50 = .ok (.goto 4, 3) := by decide +kernel
theorem dX4_addMesh_53 : decode cX4_addMesh 53 = .ok (.iconst 1, 1) := by decide +kernel
theorem dX4_addMesh_54 : decode cX4_addMesh 54 = .ok (.iastore, 1) := by decide +kernel
theorem dX4_addMesh_55 : decode cX4_addMesh 55 = .ok (.aload_n 0, 1) := by decide +kernel
theorem dX4_addMesh_56 : decode cX4_addMesh 56 = .ok (.getfield 16, 3) := by decide +kernel
theorem dX4_addMesh_59 : decode cX4_addMesh 59 = .ok (.iload 5, 2) := by decide +kernel
theorem dX4_addMesh_61 : decode cX4_addMesh 61 = .ok (.iconst 3, 1) := by decide +kernel
theorem dX4_addMesh_62 : decode cX4_addMesh 62 = .ok (.iadd, 1) := by decide +kernel
theorem dX4_addMesh_63 : decode cX4_addMesh 63 = .ok (.iload 4, 2) := by decide +kernel
theorem dX4_addMesh_65 : decode cX4_addMesh 65 = .ok (.iastore, 1) := by decide +kernel
theorem dX4_addMesh_66 : decode cX4_addMesh 66 = .ok (.aload_n 0, 1) := by decide +kernel
theorem dX4_addMesh_67 : decode cX4_addMesh 67 = .ok (.dup, 1) := by decide +kernel
theorem dX4_addMesh_68 : decode cX4_addMesh 68 = .ok (.getfield 59, 3) := by decide +kernel
theorem dX4_addMesh_71 : decode cX4_addMesh 71 = .ok (.iconst 1, 1) := by decide +kernel
theorem dX4_addMesh_72 : decode cX4_addMesh 72 = .ok (.iadd, 1) := by decide +kernel
theorem dX4_addMesh_73 : decode cX4_addMesh 73 = .ok (.putfield 59, 3) := by decide +kernel
theorem dX4_addMesh_76 : decode cX4_addMesh 76 = .ok (.aload_n 0, 1) := by decide +kernel
theorem dX4_addMesh_77 : decode cX4_addMesh 77 = .ok (.iconst 0, 1) := by decide +kernel
theorem dX4_addMesh_78 : decode cX4_addMesh 78 = .ok (.putfield 62, 3) := by decide +kernel
theorem dX4_addMesh_81 : decode cX4_addMesh 81 = .ok (.aload_n 0, 1) := by decide +kernel
theorem dX4_addMesh_82 : decode cX4_addMesh 82 = .ok (.getfield 59, 3) := by decide +kernel
theorem dX4_addMesh_85 : decode cX4_addMesh 85 = .ok (.iconst 1, 1) := by decide +kernel
theorem dX4_addMesh_86 : decode cX4_addMesh 86 = .ok (.isub, 1) := by decide +kernel
theorem dX4_addMesh_87 : decode cX4_addMesh 87 = .ok (.ireturn, 1) := by decide +kernel
theorem dX4_setShaft_0 : decode cX4_setShaft 0 = .ok (.aload_n 0, 1) := by decide +kernel
theorem dX4_setShaft_1 : decode cX4_setShaft 1 = .ok (.getfield 19, 3) := by decide +kernel
theorem dX4_setShaft_4 : decode cX4_setShaft 4 = .ok (.iload_n 1, 1) := by decide +kernel
theorem dX4_setShaft_5 : decode cX4_setShaft 5 = .ok (.iload_n 2, 1) := by decide +kernel
theorem dX4_setShaft_6 : decode cX4_setShaft 6 = .ok (.iastore, 1) := by decide +kernel
theorem dX4_setShaft_7 : decode cX4_setShaft 7 = .ok (.aload_n 0, 1) := by decide +kernel
theorem dX4_setShaft_8 : decode cX4_setShaft 8 = .ok (.getfield 22, 3) := by decide +kernel
theorem dX4_setShaft_11 : decode cX4_setShaft 11 = .ok (.iload_n 1, 1) := by decide +kernel
theorem dX4_setShaft_12 : decode cX4_setShaft 12 = .ok (.iload_n 3, 1) := by decide +kernel
theorem dX4_setShaft_13 : decode cX4_setShaft 13 = .ok (.iastore, 1) := by decide +kernel
theorem dX4_setShaft_14 : decode cX4_setShaft 14 = .ok (.aload_n 0, 1) := by decide +kernel
theorem dX4_setShaft_15 : decode cX4_setShaft 15 = .ok (.getfield 25, 3) := by decide +kernel
theorem dX4_setShaft_18 : decode cX4_setShaft 18 = .ok (.iload_n 1, 1) := by decide +kernel
theorem dX4_setShaft_19 : decode cX4_setShaft 19 = .ok (.iload 4, 2) := by decide +kernel
theorem dX4_setShaft_21 : decode cX4_setShaft 21 = .ok (.iastore, 1) := by decide +kernel
theorem dX4_setShaft_22 : decode cX4_setShaft 22 = .ok (.aload_n 0, 1) := by decide +kernel
theorem dX4_setShaft_23 : decode cX4_setShaft 23 = .ok (.iconst 0, 1) := by decide +kernel
theorem dX4_setShaft_24 : decode cX4_setShaft 24 = .ok (.putfield 62, 3) := by decide +kernel
theorem dX4_setShaft_27 : decode cX4_setShaft 27 = .ok (.return_, 1) := by decide +kernel
theorem dX4_forget_0 : decode cX4_forget 0 = .ok (.aload_n 0, 1) := by decide +kernel
theorem dX4_forget_1 : decode cX4_forget 1 = .ok (.iconst 0, 1) := by decide +kernel
theorem dX4_forget_2 : decode cX4_forget 2 = .ok (.putfield 55, 3) := by decide +kernel
theorem dX4_forget_5 : decode cX4_forget 5 = .ok (.aload_n 0, 1) := by decide +kernel
theorem dX4_forget_6 : decode cX4_forget 6 = .ok (.iconst 0, 1) := by decide +kernel
theorem dX4_forget_7 : decode cX4_forget 7 = .ok (.putfield 59, 3) := by decide +kernel
theorem dX4_forget_10 : decode cX4_forget 10 = .ok (.aload_n 0, 1) := by decide +kernel
theorem dX4_forget_11 : decode cX4_forget 11 = .ok (.iconst 0, 1) := by decide +kernel
theorem dX4_forget_12 : decode cX4_forget 12 = .ok (.putfield 62, 3) := by decide +kernel
theorem dX4_forget_15 : decode cX4_forget 15 = .ok (.aload_n 0, 1) := by decide +kernel
theorem dX4_forget_16 : decode cX4_forget 16 = .ok (.getfield 19, 3) := by decide +kernel
theorem dX4_forget_19 : decode cX4_forget 19 = .ok (.iconst 0, 1) := by decide +kernel
theorem dX4_forget_20 : decode cX4_forget 20 = .ok (.invokestatic 65, 3) := by decide +kernel
theorem dX4_forget_23 : decode cX4_forget 23 = .ok (.return_, 1) := by decide +kernel
theorem dX4_outcome_0 : decode cX4_outcome 0 = .ok (.aload_n 0, 1) := by decide +kernel
theorem dX4_outcome_1 : decode cX4_outcome 1 = .ok (.getfield 62, 3) := by decide +kernel
theorem dX4_outcome_4 : decode cX4_outcome 4 = .ok (.ifCond .ne 38, 3) := by decide +kernel
theorem dX4_outcome_7 : decode cX4_outcome 7 = .ok (.aload_n 0, 1) := by decide +kernel
theorem dX4_outcome_8 : decode cX4_outcome 8 = .ok (.invokevirtual 71, 3) := by decide +kernel
theorem dX4_outcome_11 : decode cX4_outcome 11 = .ok (.aload_n 0, 1) := by decide +kernel
theorem dX4_outcome_12 : decode cX4_outcome 12 = .ok (.invokevirtual 74, 3) := by decide +kernel
theorem dX4_outcome_15 : decode cX4_outcome 15 = .ok (.ifCond .ne 11, 3) := by decide +kernel
theorem dX4_outcome_18 : decode cX4_outcome 18 = .ok (.aload_n 0, 1) := by decide +kernel
theorem dX4_outcome_19 : decode cX4_outcome 19 = .ok (.iconst 3, 1) := by decide +kernel
theorem dX4_outcome_20 : decode cX4_outcome 20 = .ok (.putfield 62, 3) := by decide +kernel
theorem dX4_outcome_23 : decode cX4_outcome 23 = .ok (.goto 19, 3) := by decide +kernel
theorem dX4_outcome_26 : decode cX4_outcome 26 = .ok (.aload_n 0, 1) := by decide +kernel
theorem dX4_outcome_27 : decode cX4_outcome 27 = .ok (.aload_n 0, 1) := by decide +kernel
theorem dX4_outcome_28 : decode cX4_outcome 28 = .ok (.invokevirtual 78, 3) := by decide +kernel
theorem dX4_outcome_31 : decode cX4_outcome 31 = .ok (.ifCond .eq 7, 3) := by decide +kernel
theorem dX4_outcome_34 : decode cX4_outcome 34 = .ok (.iconst 2, 1) := by decide +kernel
theorem dX4_outcome_35 : decode cX4_outcome 35 = .ok (.goto 4, 3) := by decide +kernel
theorem dX4_outcome_38 : decode cX4_outcome 38 = .ok (.iconst 1, 1) := by decide +kernel
theorem dX4_outcome_39 : decode cX4_outcome 39 = .ok (.putfield 62, 3) := by decide +kernel
theorem dX4_outcome_42 : decode cX4_outcome 42 = .ok (.aload_n 0, 1) := by decide +kernel
theorem dX4_outcome_43 : decode cX4_outcome 43 = .ok (.getfield 62, 3) := by decide +kernel
theorem dX4_outcome_46 : decode cX4_outcome 46 = .ok (.ireturn, 1) := by decide +kernel
theorem dX4_writeRows_0 : decode cX4_writeRows 0 = .ok (.aload_n 0, 1) := by decide +kernel
theorem dX4_writeRows_1 : decode cX4_writeRows 1 = .ok (.iconst 0, 1) := by decide +kernel
theorem dX4_writeRows_2 : decode cX4_writeRows 2 = .ok (.putfield 81, 3) := by decide +kernel
theorem dX4_writeRows_5 : decode cX4_writeRows 5 = .ok (.iconst 0, 1) := by decide +kernel
theorem dX4_writeRows_6 : decode cX4_writeRows 6 = .ok (.istore_n 1, 1) := by decide +kernel
theorem dX4_writeRows_7 : decode cX4_writeRows 7 = .ok (.iload_n 1, 1) := by decide +kernel
theorem dX4_writeRows_8 : decode cX4_writeRows 8 = .ok (.aload_n 0, 1) := by decide +kernel
theorem dX4_writeRows_9 : decode cX4_writeRows 9 = .ok (.getfield 59, 3) := by decide +kernel
theorem dX4_writeRows_12 : decode cX4_writeRows 12 = .ok (.if_icmp .ge 30, 3) := by decide +kernel
theorem dX4_writeRows_15 : decode cX4_writeRows 15 = .ok (.aload_n 0, 1) := by decide +kernel
theorem dX4_writeRows_16 : decode cX4_writeRows 16 = .ok (.invokevirtual 84, 3) := by decide +kernel
theorem dX4_writeRows_19 : decode cX4_writeRows 19 = .ok (.aload_n 0, 1) := by decide +kernel
theorem dX4_writeRows_20 : decode cX4_writeRows 20 = .ok (.iconst 4, 1) := by decide +kernel
theorem dX4_writeRows_21 : decode cX4_writeRows 21 = .ok (.iload_n 1, 1) := by decide +kernel
theorem dX4_writeRows_22 : decode cX4_writeRows 22 = .ok (.imul, 1) := by decide +kernel
theorem dX4_writeRows_23 : decode cX4_writeRows 23 = .ok (.invokevirtual 87, 3) := by decide +kernel
theorem dX4_writeRows_26 : decode cX4_writeRows 26 = .ok (.aload_n 0, 1) := by decide +kernel
theorem dX4_writeRows_27 : decode cX4_writeRows 27 = .ok (.dup, 1) := by decide +kernel
theorem dX4_writeRows_28 : decode cX4_writeRows 28 = .ok (.getfield 81, 3) := by decide +kernel
theorem dX4_writeRows_31 : decode cX4_writeRows 31 = .ok (.iconst 1, 1) := by decide +kernel
theorem dX4_writeRows_32 : decode cX4_writeRows 32 = .ok (.iadd, 1) := by decide +kernel
theorem dX4_writeRows_33 : decode cX4_writeRows 33 = .ok (.putfield 81, 3) := by decide +kernel
theorem dX4_writeRows_36 : decode cX4_writeRows 36 = .ok (.iinc 1 1, 3) := by decide +kernel
theorem dX4_writeRows_39 : decode cX4_writeRows 39 = .ok (.goto (-32), 3) := by decide +kernel
theorem dX4_writeRows_42 : decode cX4_writeRows 42 = .ok (.iconst 0, 1) := by decide +kernel
theorem dX4_writeRows_43 : decode cX4_writeRows 43 = .ok (.istore_n 1, 1) := by decide +kernel
theorem dX4_writeRows_44 : decode cX4_writeRows 44 = .ok (.iload_n 1, 1) := by decide +kernel
theorem dX4_writeRows_45 : decode cX4_writeRows 45 = .ok (.bipush 12, 2) := by decide +kernel
theorem dX4_writeRows_47 : decode cX4_writeRows 47 = .ok (.if_icmp .ge 85, 3) := by decide +kernel
theorem dX4_writeRows_50 : decode cX4_writeRows 50 = .ok (.aload_n 0, 1) := by decide +kernel
theorem dX4_writeRows_51 : decode cX4_writeRows 51 = .ok (.getfield 19, 3) := by decide +kernel
theorem dX4_writeRows_54 : decode cX4_writeRows 54 = .ok (.iload_n 1, 1) := by decide +kernel
theorem dX4_writeRows_55 : decode cX4_writeRows 55 = .ok (.iaload, 1) := by decide +kernel
theorem dX4_writeRows_56 : decode cX4_writeRows 56 = .ok (.ifCond .eq 70, 3) := by decide +kernel
theorem dX4_writeRows_59 : decode cX4_writeRows 59 = .ok (.aload_n 0, 1) := by decide +kernel
theorem dX4_writeRows_60 : decode cX4_writeRows 60 = .ok (.invokevirtual 84, 3) := by decide +kernel
theorem dX4_writeRows_63 : decode cX4_writeRows 63 = .ok (.aload_n 0, 1) := by decide +kernel
theorem dX4_writeRows_64 : decode cX4_writeRows 64 = .ok (.getfield 33, 3) := by decide +kernel
theorem dX4_writeRows_67 : decode cX4_writeRows 67 = .ok (.aload_n 0, 1) := by decide +kernel
theorem dX4_writeRows_68 : decode cX4_writeRows 68 = .ok (.getfield 81, 3) := by decide +kernel
theorem dX4_writeRows_71 : decode cX4_writeRows 71 = .ok (.aaload, 1) := by decide +kernel
theorem dX4_writeRows_72 : decode cX4_writeRows 72 = .ok (.iload_n 1, 1) := by decide +kernel
theorem dX4_writeRows_73 : decode cX4_writeRows 73 = .ok (.lconst 1, 1) := by decide +kernel
theorem dX4_writeRows_74 : decode cX4_writeRows 74 = .ok (.lastore, 1) := by decide +kernel
theorem dX4_writeRows_75 : decode cX4_writeRows 75 = .ok (.aload_n 0, 1) := by decide +kernel
theorem dX4_writeRows_76 : decode cX4_writeRows 76 = .ok (.getfield 19, 3) := by decide +kernel
theorem dX4_writeRows_79 : decode cX4_writeRows 79 = .ok (.iload_n 1, 1) := by decide +kernel
theorem dX4_writeRows_80 : decode cX4_writeRows 80 = .ok (.iaload, 1) := by decide +kernel
theorem dX4_writeRows_81 : decode cX4_writeRows 81 = .ok (.iconst 2, 1) := by decide +kernel
theorem dX4_writeRows_82 : decode cX4_writeRows 82 = .ok (.if_icmp .ne 34, 3) := by decide +kernel
theorem dX4_writeRows_85 : decode cX4_writeRows 85 = .ok (.aload_n 0, 1) := by decide +kernel
theorem dX4_writeRows_86 : decode cX4_writeRows 86 = .ok (.getfield 52, 3) := by decide +kernel
theorem dX4_writeRows_89 : decode cX4_writeRows 89 = .ok (.aload_n 0, 1) := by decide +kernel
theorem dX4_writeRows_90 : decode cX4_writeRows 90 = .ok (.getfield 22, 3) := by decide +kernel
theorem dX4_writeRows_93 : decode cX4_writeRows 93 = .ok (.iload_n 1, 1) := by decide +kernel
theorem dX4_writeRows_94 : decode cX4_writeRows 94 = .ok (.iaload, 1) := by decide +kernel
theorem dX4_writeRows_95 : decode cX4_writeRows 95 = .ok (.i2l, 1) := by decide +kernel
theorem dX4_writeRows_96 : decode cX4_writeRows 96 = .ok (.aload_n 0, 1) := by decide +kernel
theorem dX4_writeRows_97 : decode cX4_writeRows 97 = .ok (.getfield 25, 3) := by decide +kernel
theorem dX4_writeRows_100 : decode cX4_writeRows 100 = .ok (.iload_n 1, 1) := by decide +kernel
theorem dX4_writeRows_101 : decode cX4_writeRows 101 = .ok (.iaload, 1) := by decide +kernel
theorem dX4_writeRows_102 : decode cX4_writeRows 102 = .ok (.i2l, 1) := by decide +kernel
theorem dX4_writeRows_103 : decode cX4_writeRows 103 = .ok (.invokevirtual 91, 3) := by decide +kernel
theorem dX4_writeRows_106 : decode cX4_writeRows 106 = .ok (.aload_n 0, 1) := by decide +kernel
theorem dX4_writeRows_107 : decode cX4_writeRows 107 = .ok (.aload_n 0, 1) := by decide +kernel
theorem dX4_writeRows_108 : decode cX4_writeRows 108 = .ok (.getfield 81, 3) := by decide +kernel
theorem dX4_writeRows_111 : decode cX4_writeRows 111 = .ok (.bipush 12, 2) := by decide +kernel
theorem dX4_writeRows_113 : decode cX4_writeRows 113 = .ok (.invokevirtual 95, 3) := by decide +kernel
theorem dX4_writeRows_116 : decode cX4_writeRows 116 = .ok (.aload_n 0, 1) := by decide +kernel
theorem dX4_writeRows_117 : decode cX4_writeRows 117 = .ok (.dup, 1) := by decide +kernel
theorem dX4_writeRows_118 : decode cX4_writeRows 118 = .ok (.getfield 81, 3) := by decide +kernel
theorem dX4_writeRows_121 : decode cX4_writeRows 121 = .ok (.iconst 1, 1) := by decide +kernel
theorem dX4_writeRows_122 : decode cX4_writeRows 122 = .ok (.iadd, 1) := by decide +kernel
theorem dX4_writeRows_123 : decode cX4_writeRows 123 = .ok (.putfield 81, 3) := by decide +kernel
theorem dX4_writeRows_126 : decode cX4_writeRows 126 = .ok (.iinc 1 1, 3) := by decide +kernel
theorem dX4_writeRows_129 : decode cX4_writeRows 129 = .ok (.goto (-85), 3) := by decide +kernel
theorem dX4_writeRows_132 : decode cX4_writeRows 132 = .ok (.return_, 1) := by decide +kernel
theorem dX4_emptyRow_0 : decode cX4_emptyRow 0 = .ok (.aload_n 0, 1) := by decide +kernel
theorem dX4_emptyRow_1 : decode cX4_emptyRow 1 = .ok (.getfield 33, 3) := by decide +kernel
theorem dX4_emptyRow_4 : decode cX4_emptyRow 4 = .ok (.aload_n 0, 1) := by decide +kernel
theorem dX4_emptyRow_5 : decode cX4_emptyRow 5 = .ok (.getfield 81, 3) := by decide +kernel
theorem dX4_emptyRow_8 : decode cX4_emptyRow 8 = .ok (.aaload, 1) := by decide +kernel
theorem dX4_emptyRow_9 : decode cX4_emptyRow 9 = .ok (.lconst 0, 1) := by decide +kernel
theorem dX4_emptyRow_10 : decode cX4_emptyRow 10 = .ok (.invokestatic 99, 3) := by decide +kernel
theorem dX4_emptyRow_13 : decode cX4_emptyRow 13 = .ok (.aload_n 0, 1) := by decide +kernel
theorem dX4_emptyRow_14 : decode cX4_emptyRow 14 = .ok (.getfield 36, 3) := by decide +kernel
theorem dX4_emptyRow_17 : decode cX4_emptyRow 17 = .ok (.aload_n 0, 1) := by decide +kernel
theorem dX4_emptyRow_18 : decode cX4_emptyRow 18 = .ok (.getfield 81, 3) := by decide +kernel
theorem dX4_emptyRow_21 : decode cX4_emptyRow 21 = .ok (.aaload, 1) := by decide +kernel
theorem dX4_emptyRow_22 : decode cX4_emptyRow 22 = .ok (.lconst 1, 1) := by decide +kernel
theorem dX4_emptyRow_23 : decode cX4_emptyRow 23 = .ok (.invokestatic 99, 3) := by decide +kernel
theorem dX4_emptyRow_26 : decode cX4_emptyRow 26 = .ok (.return_, 1) := by decide +kernel
theorem dX4_writeMesh_0 : decode cX4_writeMesh 0 = .ok (.aload_n 0, 1) := by decide +kernel
theorem dX4_writeMesh_1 : decode cX4_writeMesh 1 = .ok (.getfield 9, 3) := by decide +kernel
theorem dX4_writeMesh_4 : decode cX4_writeMesh 4 = .ok (.aload_n 0, 1) := by decide +kernel
theorem dX4_writeMesh_5 : decode cX4_writeMesh 5 = .ok (.getfield 16, 3) := by decide +kernel
theorem dX4_writeMesh_8 : decode cX4_writeMesh 8 = .ok (.iload_n 1, 1) := by decide +kernel
theorem dX4_writeMesh_9 : decode cX4_writeMesh 9 = .ok (.iaload, 1) := by decide +kernel
theorem dX4_writeMesh_10 : decode cX4_writeMesh 10 = .ok (.iaload, 1) := by decide +kernel
theorem dX4_writeMesh_11 : decode cX4_writeMesh 11 = .ok (.i2l, 1) := by decide +kernel
theorem dX4_writeMesh_12 : decode cX4_writeMesh 12 = .ok (.lstore_n 2, 1) := by decide +kernel
theorem dX4_writeMesh_13 : decode cX4_writeMesh 13 = .ok (.aload_n 0, 1) := by decide +kernel
theorem dX4_writeMesh_14 : decode cX4_writeMesh 14 = .ok (.getfield 16, 3) := by decide +kernel
theorem dX4_writeMesh_17 : decode cX4_writeMesh 17 = .ok (.iload_n 1, 1) := by decide +kernel
theorem dX4_writeMesh_18 : decode cX4_writeMesh 18 = .ok (.iconst 2, 1) := by decide +kernel
theorem dX4_writeMesh_19 : decode cX4_writeMesh 19 = .ok (.iadd, 1) := by decide +kernel
theorem dX4_writeMesh_20 : decode cX4_writeMesh 20 = .ok (.iaload, 1) := by decide +kernel
theorem dX4_writeMesh_21 : decode cX4_writeMesh 21 = .ok (.i2l, 1) := by decide +kernel
theorem dX4_writeMesh_22 : decode cX4_writeMesh 22 = .ok (.aload_n 0, 1) := by decide +kernel
theorem dX4_writeMesh_23 : decode cX4_writeMesh 23 = .ok (.getfield 9, 3) := by decide +kernel
theorem dX4_writeMesh_26 : decode cX4_writeMesh 26 = .ok (.aload_n 0, 1) := by decide +kernel
theorem dX4_writeMesh_27 : decode cX4_writeMesh 27 = .ok (.getfield 16, 3) := by decide +kernel
theorem dX4_writeMesh_30 : decode cX4_writeMesh 30 = .ok (.iload_n 1, 1) := by decide +kernel
theorem dX4_writeMesh_31 : decode cX4_writeMesh 31 = .ok (.iconst 1, 1) := by decide +kernel
theorem dX4_writeMesh_32 : decode cX4_writeMesh 32 = .ok (.iadd, 1) := by decide +kernel
theorem dX4_writeMesh_33 : decode cX4_writeMesh 33 = .ok (.iaload, 1) := by decide +kernel
theorem dX4_writeMesh_34 : decode cX4_writeMesh 34 = .ok (.iaload, 1) := by decide +kernel
theorem dX4_writeMesh_35 : decode cX4_writeMesh 35 = .ok (.i2l, 1) := by decide +kernel
theorem dX4_writeMesh_36 : decode cX4_writeMesh 36 = .ok (.lmul, 1) := by decide +kernel
theorem dX4_writeMesh_37 : decode cX4_writeMesh 37 = .ok (.lstore 4, 2) := by decide +kernel
theorem dX4_writeMesh_39 : decode cX4_writeMesh 39 = .ok (.aload_n 0, 1) := by decide +kernel
theorem dX4_writeMesh_40 : decode cX4_writeMesh 40 = .ok (.getfield 33, 3) := by decide +kernel
theorem dX4_writeMesh_43 : decode cX4_writeMesh 43 = .ok (.aload_n 0, 1) := by decide +kernel
theorem dX4_writeMesh_44 : decode cX4_writeMesh 44 = .ok (.getfield 81, 3) := by decide +kernel
theorem dX4_writeMesh_47 : decode cX4_writeMesh 47 = .ok (.aaload, 1) := by decide +kernel
theorem dX4_writeMesh_48 : decode cX4_writeMesh 48 = .ok (.aload_n 0, 1) := by decide +kernel
theorem dX4_writeMesh_49 : decode cX4_writeMesh 49 = .ok (.getfield 13, 3) := by decide +kernel
theorem dX4_writeMesh_52 : decode cX4_writeMesh 52 = .ok (.aload_n 0, 1) := by decide +kernel
theorem dX4_writeMesh_53 : decode cX4_writeMesh 53 = .ok (.getfield 16, 3) := by decide +kernel
theorem dX4_writeMesh_56 : decode cX4_writeMesh 56 = .ok (.iload_n 1, 1) := by decide +kernel
theorem dX4_writeMesh_57 : decode cX4_writeMesh 57 = .ok (.iaload, 1) := by decide +kernel
theorem dX4_writeMesh_58 : decode cX4_writeMesh 58 = .ok (.iaload, 1) := by decide +kernel
theorem dX4_writeMesh_59 : decode cX4_writeMesh 59 = .ok (.dup2, 1) := by decide +kernel
theorem dX4_writeMesh_60 : decode cX4_writeMesh 60 = .ok (.laload, 1) := by decide +kernel
theorem dX4_writeMesh_61 : decode cX4_writeMesh 61 = .ok (.lload_n 2, 1) := by decide +kernel
theorem dX4_writeMesh_62 : decode cX4_writeMesh 62 = .ok (.ladd, 1) := by decide +kernel
theorem dX4_writeMesh_63 : decode cX4_writeMesh 63 = .ok (.lastore, 1) := by decide +kernel
theorem dX4_writeMesh_64 : decode cX4_writeMesh 64 = .ok (.aload_n 0, 1) := by decide +kernel
theorem dX4_writeMesh_65 : decode cX4_writeMesh 65 = .ok (.getfield 33, 3) := by decide +kernel
theorem dX4_writeMesh_68 : decode cX4_writeMesh 68 = .ok (.aload_n 0, 1) := by decide +kernel
theorem dX4_writeMesh_69 : decode cX4_writeMesh 69 = .ok (.getfield 81, 3) := by decide +kernel
theorem dX4_writeMesh_72 : decode cX4_writeMesh 72 = .ok (.aaload, 1) := by decide +kernel
theorem dX4_writeMesh_73 : decode cX4_writeMesh 73 = .ok (.aload_n 0, 1) := by decide +kernel
theorem dX4_writeMesh_74 : decode cX4_writeMesh 74 = .ok (.getfield 13, 3) := by decide +kernel
theorem dX4_writeMesh_77 : decode cX4_writeMesh 77 = .ok (.aload_n 0, 1) := by decide +kernel
theorem dX4_writeMesh_78 : decode cX4_writeMesh 78 = .ok (.getfield 16, 3) := by decide +kernel
theorem dX4_writeMesh_81 : decode cX4_writeMesh 81 = .ok (.iload_n 1, 1) := by decide +kernel
theorem dX4_writeMesh_82 : decode cX4_writeMesh 82 = .ok (.iconst 1, 1) := by decide +kernel
theorem dX4_writeMesh_83 : decode cX4_writeMesh 83 = .ok (.iadd, 1) := by decide +kernel
theorem dX4_writeMesh_84 : decode cX4_writeMesh 84 = .ok (.iaload, 1) := by decide +kernel
theorem dX4_writeMesh_85 : decode cX4_writeMesh 85 = .ok (.iaload, 1) := by decide +kernel
theorem dX4_writeMesh_86 : decode cX4_writeMesh 86 = .ok (.dup2, 1) := by decide +kernel
theorem dX4_writeMesh_87 : decode cX4_writeMesh 87 = .ok (.laload, 1) := by decide +kernel
theorem dX4_writeMesh_88 : decode cX4_writeMesh 88 = .ok (.lload 4, 2) := by decide +kernel
theorem dX4_writeMesh_90 : decode cX4_writeMesh 90 = .ok (.ladd, 1) := by decide +kernel
theorem dX4_writeMesh_91 : decode cX4_writeMesh 91 = .ok (.lastore, 1) := by decide +kernel
theorem dX4_writeMesh_92 : decode cX4_writeMesh 92 = .ok (.aload_n 0, 1) := by decide +kernel
theorem dX4_writeMesh_93 : decode cX4_writeMesh 93 = .ok (.getfield 16, 3) := by decide +kernel
theorem dX4_writeMesh_96 : decode cX4_writeMesh 96 = .ok (.iload_n 1, 1) := by decide +kernel
theorem dX4_writeMesh_97 : decode cX4_writeMesh 97 = .ok (.iconst 3, 1) := by decide +kernel
theorem dX4_writeMesh_98 : decode cX4_writeMesh 98 = .ok (.iadd, 1) := by decide +kernel
theorem dX4_writeMesh_99 : decode cX4_writeMesh 99 = .ok (.iaload, 1) := by decide +kernel
theorem dX4_writeMesh_100 : decode cX4_writeMesh 100 = .ok (.ifCond .lt 28, 3) := by decide +kernel
theorem dX4_writeMesh_103 : decode cX4_writeMesh 103 = .ok (.aload_n 0, 1) := by decide +kernel
theorem dX4_writeMesh_104 : decode cX4_writeMesh 104 = .ok (.getfield 33, 3) := by decide +kernel
theorem dX4_writeMesh_107 : decode cX4_writeMesh 107 = .ok (.aload_n 0, 1) := by decide +kernel
theorem dX4_writeMesh_108 : decode cX4_writeMesh 108 = .ok (.getfield 81, 3) := by decide +kernel
theorem dX4_writeMesh_111 : decode cX4_writeMesh 111 = .ok (.aaload, 1) := by decide +kernel
theorem dX4_writeMesh_112 : decode cX4_writeMesh 112 = .ok (.aload_n 0, 1) := by decide +kernel
theorem dX4_writeMesh_113 : decode cX4_writeMesh 113 = .ok (.getfield 16, 3) := by decide +kernel
theorem dX4_writeMesh_116 : decode cX4_writeMesh 116 = .ok (.iload_n 1, 1) := by decide +kernel
theorem dX4_writeMesh_117 : decode cX4_writeMesh 117 = .ok (.iconst 3, 1) := by decide +kernel
theorem dX4_writeMesh_118 : decode cX4_writeMesh 118 = .ok (.iadd, 1) := by decide +kernel
theorem dX4_writeMesh_119 : decode cX4_writeMesh 119 = .ok (.iaload, 1) := by decide +kernel
theorem dX4_writeMesh_120 : decode cX4_writeMesh 120 = .ok (.dup2, 1) := by decide +kernel
theorem dX4_writeMesh_121 : decode cX4_writeMesh 121 = .ok (.laload, 1) := by decide +kernel
theorem dX4_writeMesh_122 : decode cX4_writeMesh 122 = .ok (.lload_n 2, 1) := by decide +kernel
theorem dX4_writeMesh_123 : decode cX4_writeMesh 123 = .ok (.lload 4, 2) := by decide +kernel
theorem dX4_writeMesh_125 : decode cX4_writeMesh 125 = .ok (.ladd, 1) := by decide +kernel
theorem dX4_writeMesh_126 : decode cX4_writeMesh 126 = .ok (.lsub, 1) := by decide +kernel
theorem dX4_writeMesh_127 : decode cX4_writeMesh 127 = .ok (.lastore, 1) := by decide +kernel
theorem dX4_writeMesh_128 : decode cX4_writeMesh 128 = .ok (.return_, 1) := by decide +kernel
theorem dX4_readCell_0 : decode cX4_readCell 0 = .ok (.aload_n 1, 1) := by decide +kernel
theorem dX4_readCell_1 : decode cX4_readCell 1 = .ok (.aload_n 0, 1) := by decide +kernel
theorem dX4_readCell_2 : decode cX4_readCell 2 = .ok (.getfield 33, 3) := by decide +kernel
theorem dX4_readCell_5 : decode cX4_readCell 5 = .ok (.iload_n 2, 1) := by decide +kernel
theorem dX4_readCell_6 : decode cX4_readCell 6 = .ok (.aaload, 1) := by decide +kernel
theorem dX4_readCell_7 : decode cX4_readCell 7 = .ok (.iload_n 3, 1) := by decide +kernel
theorem dX4_readCell_8 : decode cX4_readCell 8 = .ok (.laload, 1) := by decide +kernel
theorem dX4_readCell_9 : decode cX4_readCell 9 = .ok (.putfield 102, 3) := by decide +kernel
theorem dX4_readCell_12 : decode cX4_readCell 12 = .ok (.aload_n 1, 1) := by decide +kernel
theorem dX4_readCell_13 : decode cX4_readCell 13 = .ok (.aload_n 0, 1) := by decide +kernel
theorem dX4_readCell_14 : decode cX4_readCell 14 = .ok (.getfield 36, 3) := by decide +kernel
theorem dX4_readCell_17 : decode cX4_readCell 17 = .ok (.iload_n 2, 1) := by decide +kernel
theorem dX4_readCell_18 : decode cX4_readCell 18 = .ok (.aaload, 1) := by decide +kernel
theorem dX4_readCell_19 : decode cX4_readCell 19 = .ok (.iload_n 3, 1) := by decide +kernel
theorem dX4_readCell_20 : decode cX4_readCell 20 = .ok (.laload, 1) := by decide +kernel
theorem dX4_readCell_21 : decode cX4_readCell 21 = .ok (.putfield 106, 3) := by decide +kernel
theorem dX4_readCell_24 : decode cX4_readCell 24 = .ok (.aload_n 1, 1) := by decide +kernel
theorem dX4_readCell_25 : decode cX4_readCell 25 = .ok (.iconst 0, 1) := by decide +kernel
theorem dX4_readCell_26 : decode cX4_readCell 26 = .ok (.putfield 109, 3) := by decide +kernel
theorem dX4_readCell_29 : decode cX4_readCell 29 = .ok (.return_, 1) := by decide +kernel
theorem dX4_writeCell_0 : decode cX4_writeCell 0 = .ok (.aload_n 0, 1) := by decide +kernel
theorem dX4_writeCell_1 : decode cX4_writeCell 1 = .ok (.getfield 33, 3) := by decide +kernel
theorem dX4_writeCell_4 : decode cX4_writeCell 4 = .ok (.iload_n 1, 1) := by decide +kernel
theorem dX4_writeCell_5 : decode cX4_writeCell 5 = .ok (.aaload, 1) := by decide +kernel
theorem dX4_writeCell_6 : decode cX4_writeCell 6 = .ok (.iload_n 2, 1) := by decide +kernel
theorem dX4_writeCell_7 : decode cX4_writeCell 7 = .ok (.aload_n 0, 1) := by decide +kernel
theorem dX4_writeCell_8 : decode cX4_writeCell 8 = .ok (.getfield 52, 3) := by decide +kernel
theorem dX4_writeCell_11 : decode cX4_writeCell 11 = .ok (.getfield 102, 3) := by decide +kernel
theorem dX4_writeCell_14 : decode cX4_writeCell 14 = .ok (.lastore, 1) := by decide +kernel
theorem dX4_writeCell_15 : decode cX4_writeCell 15 = .ok (.aload_n 0, 1) := by decide +kernel
theorem dX4_writeCell_16 : decode cX4_writeCell 16 = .ok (.getfield 36, 3) := by decide +kernel
theorem dX4_writeCell_19 : decode cX4_writeCell 19 = .ok (.iload_n 1, 1) := by decide +kernel
theorem dX4_writeCell_20 : decode cX4_writeCell 20 = .ok (.aaload, 1) := by decide +kernel
theorem dX4_writeCell_21 : decode cX4_writeCell 21 = .ok (.iload_n 2, 1) := by decide +kernel
theorem dX4_writeCell_22 : decode cX4_writeCell 22 = .ok (.aload_n 0, 1) := by decide +kernel
theorem dX4_writeCell_23 : decode cX4_writeCell 23 = .ok (.getfield 52, 3) := by decide +kernel
theorem dX4_writeCell_26 : decode cX4_writeCell 26 = .ok (.getfield 106, 3) := by decide +kernel
theorem dX4_writeCell_29 : decode cX4_writeCell 29 = .ok (.lastore, 1) := by decide +kernel
theorem dX4_writeCell_30 : decode cX4_writeCell 30 = .ok (.return_, 1) := by decide +kernel
theorem dX4_isReduced_0 : decode cX4_isReduced 0 = .ok (.aload_n 0, 1) := by decide +kernel
theorem dX4_isReduced_1 : decode cX4_isReduced 1 = .ok (.getfield 39, 3) := by decide +kernel
theorem dX4_isReduced_4 : decode cX4_isReduced 4 = .ok (.iconst (-1), 1) := by decide +kernel
theorem dX4_isReduced_5 : decode cX4_isReduced 5 = .ok (.invokestatic 65, 3) := by decide +kernel
theorem dX4_isReduced_8 : decode cX4_isReduced 8 = .ok (.iconst 0, 1) := by decide +kernel
theorem dX4_isReduced_9 : decode cX4_isReduced 9 = .ok (.istore_n 1, 1) := by decide +kernel
theorem dX4_isReduced_10 : decode cX4_isReduced 10 = .ok (.iconst 0, 1) := by decide +kernel
theorem dX4_isReduced_11 : decode cX4_isReduced 11 = .ok (.istore_n 2, 1) := by decide +kernel
theorem dX4_isReduced_12 : decode cX4_isReduced 12 = .ok (.iload_n 2, 1) := by decide +kernel
theorem dX4_isReduced_13 : decode cX4_isReduced 13 = .ok (.bipush 12, 2) := by decide +kernel
theorem dX4_isReduced_15 : decode cX4_isReduced 15 = .ok (.if_icmp .ge 106, 3) := by decide +kernel
theorem dX4_isReduced_18 : decode cX4_isReduced 18 = .ok (.iload_n 1, 1) := by decide +kernel
theorem dX4_isReduced_19 : decode cX4_isReduced 19 = .ok (.aload_n 0, 1) := by decide +kernel
theorem dX4_isReduced_20 : decode cX4_isReduced 20 = .ok (.getfield 81, 3) := by decide +kernel
theorem dX4_isReduced_23 : decode cX4_isReduced 23 = .ok (.if_icmp .ge 98, 3) := by decide +kernel
theorem dX4_isReduced_26 : decode cX4_isReduced 26 = .ok (.aload_n 0, 1) := by decide +kernel
theorem dX4_isReduced_27 : decode cX4_isReduced 27 = .ok (.iload_n 2, 1) := by decide +kernel
theorem dX4_isReduced_28 : decode cX4_isReduced 28 = .ok (.iload_n 1, 1) := by decide +kernel
theorem dX4_isReduced_29 : decode cX4_isReduced 29 = .ok (.invokevirtual 113, 3) := by decide +kernel
theorem dX4_isReduced_32 : decode cX4_isReduced 32 = .ok (.istore_n 3, 1) := by decide +kernel
theorem dX4_isReduced_33 : decode cX4_isReduced 33 = .ok (.iload_n 3, 1) := by decide +kernel
theorem dX4_isReduced_34 : decode cX4_isReduced 34 = .ok (.ifCond .lt 81, 3) := by decide +kernel
theorem dX4_isReduced_37 : decode cX4_isReduced 37 = .ok (.aload_n 0, 1) := by decide +kernel
theorem dX4_isReduced_38 : decode cX4_isReduced 38 = .ok (.iload_n 3, 1) := by decide +kernel
theorem dX4_isReduced_39 : decode cX4_isReduced 39 = .ok (.iload_n 1, 1) := by decide +kernel
theorem dX4_isReduced_40 : decode cX4_isReduced 40 = .ok (.invokevirtual 117, 3) := by decide +kernel
theorem dX4_isReduced_43 : decode cX4_isReduced 43 = .ok (.aload_n 0, 1) := by decide +kernel
theorem dX4_isReduced_44 : decode cX4_isReduced 44 = .ok (.iload_n 1, 1) := by decide +kernel
theorem dX4_isReduced_45 : decode cX4_isReduced 45 = .ok (.iload_n 2, 1) := by decide +kernel
theorem dX4_isReduced_46 : decode cX4_isReduced 46 = .ok (.invokevirtual 120, 3) := by decide +kernel
theorem dX4_isReduced_49 : decode cX4_isReduced 49 = .ok (.ifCond .ne 5, 3) := by decide +kernel
theorem dX4_isReduced_52 : decode cX4_isReduced 52 = .ok (.iconst 0, 1) := by decide +kernel
theorem dX4_isReduced_53 : decode cX4_isReduced 53 = .ok (.ireturn, 1) := by decide +kernel
theorem dX4_isReduced_54 : decode cX4_isReduced 54 = .ok (.iconst 0, 1) := by decide +kernel
theorem dX4_isReduced_55 : decode cX4_isReduced 55 = .ok (.istore 4, 2) := by decide +kernel
theorem dX4_isReduced_57 : decode cX4_isReduced 57 = .ok (.iload 4, 2) := by decide +kernel
theorem dX4_isReduced_59 : decode cX4_isReduced 59 = .ok (.aload_n 0, 1) := by decide +kernel
theorem dX4_isReduced_60 : decode cX4_isReduced 60 = .ok (.getfield 81, 3) := by decide +kernel
theorem dX4_isReduced_63 : decode cX4_isReduced 63 = .ok (.if_icmp .ge 42, 3) := by decide +kernel
theorem dX4_isReduced_66 : decode cX4_isReduced 66 = .ok (.iload 4, 2) := by decide +kernel
theorem dX4_isReduced_68 : decode cX4_isReduced 68 = .ok (.iload_n 1, 1) := by decide +kernel
theorem dX4_isReduced_69 : decode cX4_isReduced 69 = .ok (.if_icmp .eq 30, 3) := by decide +kernel
theorem dX4_isReduced_72 : decode cX4_isReduced 72 = .ok (.aload_n 0, 1) := by decide +kernel
theorem dX4_isReduced_73 : decode cX4_isReduced 73 = .ok (.getfield 33, 3) := by decide +kernel
theorem dX4_isReduced_76 : decode cX4_isReduced 76 = .ok (.iload 4, 2) := by decide +kernel
theorem dX4_isReduced_78 : decode cX4_isReduced 78 = .ok (.aaload, 1) := by decide +kernel
theorem dX4_isReduced_79 : decode cX4_isReduced 79 = .ok (.iload_n 2, 1) := by decide +kernel
theorem dX4_isReduced_80 : decode cX4_isReduced 80 = .ok (.laload, 1) := by decide +kernel
theorem dX4_isReduced_81 : decode cX4_isReduced 81 = .ok (.lconst 0, 1) := by decide +kernel
theorem dX4_isReduced_82 : decode cX4_isReduced 82 = .ok (.lcmp, 1) := by decide +kernel
theorem dX4_isReduced_83 : decode cX4_isReduced 83 = .ok (.ifCond .eq 16, 3) := by decide +kernel
theorem dX4_isReduced_86 : decode cX4_isReduced 86 = .ok (.aload_n 0, 1) := by decide +kernel
theorem dX4_isReduced_87 : decode cX4_isReduced 87 = .ok (.iload 4, 2) := by decide +kernel
theorem dX4_isReduced_89 : decode cX4_isReduced 89 = .ok (.iload_n 1, 1) := by decide +kernel
theorem dX4_isReduced_90 : decode cX4_isReduced 90 = .ok (.iload_n 2, 1) := by decide +kernel
theorem dX4_isReduced_91 : decode cX4_isReduced 91 = .ok (.invokevirtual 124, 3) := by decide +kernel
theorem dX4_isReduced_94 : decode cX4_isReduced 94 = .ok (.ifCond .ne 5, 3) := by decide +kernel
theorem dX4_isReduced_97 : decode cX4_isReduced 97 = .ok (.iconst 0, 1) := by decide +kernel
theorem dX4_isReduced_98 : decode cX4_isReduced 98 = .ok (.ireturn, 1) := by decide +kernel
theorem dX4_isReduced_99 : decode cX4_isReduced 99 = .ok (.iinc 4 1, 3) := by decide +kernel
theorem dX4_isReduced_102 : decode cX4_isReduced 102 = .ok (.goto (-45), 3) := by decide +kernel
theorem dX4_isReduced_105 : decode cX4_isReduced 105 = .ok (.aload_n 0, 1) := by decide +kernel
theorem dX4_isReduced_106 : decode cX4_isReduced 106 = .ok (.getfield 39, 3) := by decide +kernel
theorem dX4_isReduced_109 : decode cX4_isReduced 109 = .ok (.iload_n 2, 1) := by decide +kernel
theorem dX4_isReduced_110 : decode cX4_isReduced 110 = .ok (.iload_n 1, 1) := by decide +kernel
theorem dX4_isReduced_111 : decode cX4_isReduced 111 = .ok (.iastore, 1) := by decide +kernel
theorem dX4_isReduced_112 : decode cX4_isReduced 112 = .ok (.iinc 1 1, 3) := by decide +kernel
theorem dX4_isReduced_115 : decode cX4_isReduced 115 = .ok (.iinc 2 1, 3) := by decide +kernel
theorem dX4_isReduced_118 : decode cX4_isReduced 118 = .ok (.goto (-106), 3) := by decide +kernel
theorem dX4_isReduced_121 : decode cX4_isReduced 121 = .ok (.iconst 1, 1) := by decide +kernel
theorem dX4_isReduced_122 : decode cX4_isReduced 122 = .ok (.ireturn, 1) := by decide +kernel
theorem dX4_firstWith_0 : decode cX4_firstWith 0 = .ok (.iload_n 2, 1) := by decide +kernel
theorem dX4_firstWith_1 : decode cX4_firstWith 1 = .ok (.istore_n 3, 1) := by decide +kernel
theorem dX4_firstWith_2 : decode cX4_firstWith 2 = .ok (.iload_n 3, 1) := by decide +kernel
theorem dX4_firstWith_3 : decode cX4_firstWith 3 = .ok (.aload_n 0, 1) := by decide +kernel
theorem dX4_firstWith_4 : decode cX4_firstWith 4 = .ok (.getfield 81, 3) := by decide +kernel
theorem dX4_firstWith_7 : decode cX4_firstWith 7 = .ok (.if_icmp .ge 24, 3) := by decide +kernel
theorem dX4_firstWith_10 : decode cX4_firstWith 10 = .ok (.aload_n 0, 1) := by decide +kernel
theorem dX4_firstWith_11 : decode cX4_firstWith 11 = .ok (.getfield 33, 3) := by decide +kernel
theorem dX4_firstWith_14 : decode cX4_firstWith 14 = .ok (.iload_n 3, 1) := by decide +kernel
theorem dX4_firstWith_15 : decode cX4_firstWith 15 = .ok (.aaload, 1) := by decide +kernel
theorem dX4_firstWith_16 : decode cX4_firstWith 16 = .ok (.iload_n 1, 1) := by decide +kernel
theorem dX4_firstWith_17 : decode cX4_firstWith 17 = .ok (.laload, 1) := by decide +kernel
theorem dX4_firstWith_18 : decode cX4_firstWith 18 = .ok (.lconst 0, 1) := by decide +kernel
theorem dX4_firstWith_19 : decode cX4_firstWith 19 = .ok (.lcmp, 1) := by decide +kernel
theorem dX4_firstWith_20 : decode cX4_firstWith 20 = .ok (.ifCond .eq 5, 3) := by decide +kernel
theorem dX4_firstWith_23 : decode cX4_firstWith 23 = .ok (.iload_n 3, 1) := by decide +kernel
theorem dX4_firstWith_24 : decode cX4_firstWith 24 = .ok (.ireturn, 1) := by decide +kernel
theorem dX4_firstWith_25 : decode cX4_firstWith 25 = .ok (.iinc 3 1, 3) := by decide +kernel
theorem dX4_firstWith_28 : decode cX4_firstWith 28 = .ok (.goto (-26), 3) := by decide +kernel
theorem dX4_firstWith_31 : decode cX4_firstWith 31 = .ok (.iconst (-1), 1) := by decide +kernel
theorem dX4_firstWith_32 : decode cX4_firstWith 32 = .ok (.ireturn, 1) := by decide +kernel
theorem dX4_changePlaces_0 : decode cX4_changePlaces 0 = .ok (.aload_n 0, 1) := by decide +kernel
theorem dX4_changePlaces_1 : decode cX4_changePlaces 1 = .ok (.getfield 33, 3) := by decide +kernel
theorem dX4_changePlaces_4 : decode cX4_changePlaces 4 = .ok (.iload_n 1, 1) := by decide +kernel
theorem dX4_changePlaces_5 : decode cX4_changePlaces 5 = .ok (.aaload, 1) := by decide +kernel
theorem dX4_changePlaces_6 : decode cX4_changePlaces 6 = .ok (.astore_n 3, 1) := by decide +kernel
theorem dX4_changePlaces_7 : decode cX4_changePlaces 7 = .ok (.aload_n 0, 1) := by decide +kernel
theorem dX4_changePlaces_8 : decode cX4_changePlaces 8 = .ok (.getfield 33, 3) := by decide +kernel
theorem dX4_changePlaces_11 : decode cX4_changePlaces 11 = .ok (.iload_n 1, 1) := by decide +kernel
theorem dX4_changePlaces_12 : decode cX4_changePlaces 12 = .ok (.aload_n 0, 1) := by decide +kernel
theorem dX4_changePlaces_13 : decode cX4_changePlaces 13 = .ok (.getfield 33, 3) := by decide +kernel
theorem dX4_changePlaces_16 : decode cX4_changePlaces 16 = .ok (.iload_n 2, 1) := by decide +kernel
theorem dX4_changePlaces_17 : decode cX4_changePlaces 17 = .ok (.aaload, 1) := by decide +kernel
theorem dX4_changePlaces_18 : decode cX4_changePlaces 18 = .ok (.aastore, 1) := by decide +kernel
theorem dX4_changePlaces_19 : decode cX4_changePlaces 19 = .ok (.aload_n 0, 1) := by decide +kernel
theorem dX4_changePlaces_20 : decode cX4_changePlaces 20 = .ok (.getfield 33, 3) := by decide +kernel
theorem dX4_changePlaces_23 : decode cX4_changePlaces 23 = .ok (.iload_n 2, 1) := by decide +kernel
theorem dX4_changePlaces_24 : decode cX4_changePlaces 24 = .ok (.aload_n 3, 1) := by decide +kernel
theorem dX4_changePlaces_25 : decode cX4_changePlaces 25 = .ok (.aastore, 1) := by decide +kernel
theorem dX4_changePlaces_26 : decode cX4_changePlaces 26 = .ok (.aload_n 0, 1) := by decide +kernel
theorem dX4_changePlaces_27 : decode cX4_changePlaces 27 = .ok (.getfield 36, 3) := by decide +kernel
theorem dX4_changePlaces_30 : decode cX4_changePlaces 30 = .ok (.iload_n 1, 1) := by decide +kernel
theorem dX4_changePlaces_31 : decode cX4_changePlaces 31 = .ok (.aaload, 1) := by decide +kernel
theorem dX4_changePlaces_32 : decode cX4_changePlaces 32 = .ok (.astore_n 3, 1) := by decide +kernel
theorem dX4_changePlaces_33 : decode cX4_changePlaces 33 = .ok (.aload_n 0, 1) := by decide +kernel
theorem dX4_changePlaces_34 : decode cX4_changePlaces 34 = .ok (.getfield 36, 3) := by decide +kernel
theorem dX4_changePlaces_37 : decode cX4_changePlaces 37 = .ok (.iload_n 1, 1) := by decide +kernel
theorem dX4_changePlaces_38 : decode cX4_changePlaces 38 = .ok (.aload_n 0, 1) := by decide +kernel
theorem dX4_changePlaces_39 : decode cX4_changePlaces 39 = .ok (.getfield 36, 3) := by decide +kernel
theorem dX4_changePlaces_42 : decode cX4_changePlaces 42 = .ok (.iload_n 2, 1) := by decide +kernel
theorem dX4_changePlaces_43 : decode cX4_changePlaces 43 = .ok (.aaload, 1) := by decide +kernel
theorem dX4_changePlaces_44 : decode cX4_changePlaces 44 = .ok (.aastore, 1) := by decide +kernel
theorem dX4_changePlaces_45 : decode cX4_changePlaces 45 = .ok (.aload_n 0, 1) := by decide +kernel
