theorem dX10_readToken_152 : decode cX10_readToken 152 = .ok (.return_, 1) := by decide +kernel
theorem dX10_skipSpaces_0 : decode cX10_skipSpaces 0 = .ok (.iconst 0, 1) := by decide +kernel
theorem dX10_skipSpaces_1 : decode cX10_skipSpaces 1 = .ok (.istore_n 1, 1) := by decide +kernel
theorem dX10_skipSpaces_2 : decode cX10_skipSpaces 2 = .ok (.iload_n 1, 1) := by decide +kernel
theorem dX10_skipSpaces_3 : decode cX10_skipSpaces 3 = .ok (.sipush 4000, 3) := by decide +kernel
theorem dX10_skipSpaces_6 : decode cX10_skipSpaces 6 = .ok (.if_icmp .ge 53, 3) := by decide +kernel
theorem dX10_skipSpaces_9 : decode cX10_skipSpaces 9 = .ok (.aload_n 0, 1) := by decide +kernel
theorem dX10_skipSpaces_10 : decode cX10_skipSpaces 10 = .ok (.aload_n 0, 1) := by decide +kernel
theorem dX10_skipSpaces_11 : decode cX10_skipSpaces 11 = .ok (.getfield 54, 3) := by decide +kernel
theorem dX10_skipSpaces_14 : decode cX10_skipSpaces 14 = .ok (.invokevirtual 41, 3) := by decide +kernel
theorem dX10_skipSpaces_17 : decode cX10_skipSpaces 17 = .ok (.istore_n 2, 1) := by decide +kernel
theorem dX10_skipSpaces_18 : decode cX10_skipSpaces 18 = .ok (.iload_n 2, 1) := by decide +kernel
theorem dX10_skipSpaces_19 : decode cX10_skipSpaces 19 = .ok (.bipush 9, 2) := by decide +kernel
theorem dX10_skipSpaces_21 : decode cX10_skipSpaces 21 = .ok (.if_icmp .eq 22, 3) := by decide +kernel
theorem dX10_skipSpaces_24 : decode cX10_skipSpaces 24 = .ok (.iload_n 2, 1) := by decide +kernel
theorem dX10_skipSpaces_25 : decode cX10_skipSpaces 25 = .ok (.bipush 10, 2) := by decide +kernel
theorem dX10_skipSpaces_27 : decode cX10_skipSpaces 27 = .ok (.if_icmp .eq 16, 3) := by decide +kernel
theorem dX10_skipSpaces_30 : decode cX10_skipSpaces 30 = .ok (.iload_n 2, 1) := by decide +kernel
theorem dX10_skipSpaces_31 : decode cX10_skipSpaces 31 = .ok (.bipush 13, 2) := by decide +kernel
theorem dX10_skipSpaces_33 : decode cX10_skipSpaces 33 = .ok (.if_icmp .eq 10, 3) := by decide +kernel
theorem dX10_skipSpaces_36 : decode cX10_skipSpaces 36 = .ok (.iload_n 2, 1) := by decide +kernel
theorem dX10_skipSpaces_37 : decode cX10_skipSpaces 37 = .ok (.bipush 32, 2) := by decide +kernel
theorem dX10_skipSpaces_39 : decode cX10_skipSpaces 39 = .ok (.if_icmp .eq 4, 3) := by decide +kernel
theorem dX10_skipSpaces_42 : decode cX10_skipSpaces 42 = .ok (.return_, 1) := by decide +kernel
theorem dX10_skipSpaces_43 : decode cX10_skipSpaces 43 = .ok (.aload_n 0, 1) := by decide +kernel
theorem dX10_skipSpaces_44 : decode cX10_skipSpaces 44 = .ok (.dup, 1) := by decide +kernel
theorem dX10_skipSpaces_45 : decode cX10_skipSpaces 45 = .ok (.getfield 54, 3) := by decide +kernel
theorem dX10_skipSpaces_48 : decode cX10_skipSpaces 48 = .ok (.iconst 1, 1) := by decide +kernel
theorem dX10_skipSpaces_49 : decode cX10_skipSpaces 49 = .ok (.iadd, 1) := by decide +kernel
theorem dX10_skipSpaces_50 : decode cX10_skipSpaces 50 = .ok (.putfield 54, 3) := by decide +kernel
theorem dX10_skipSpaces_53 : decode cX10_skipSpaces 53 = .ok (.iinc 1 1, 3) := by decide +kernel
theorem dX10_skipSpaces_56 : decode cX10_skipSpaces 56 = .ok (.goto (-54), 3) := by decide +kernel
theorem dX10_skipSpaces_59 : decode cX10_skipSpaces 59 = .ok (.return_, 1) := by decide +kernel
theorem dX10_readWord_0 : decode cX10_readWord 0 = .ok (.aload_n 0, 1) := by decide +kernel
theorem dX10_readWord_1 : decode cX10_readWord 1 = .ok (.iconst 2, 1) := by decide +kernel
theorem dX10_readWord_2 : decode cX10_readWord 2 = .ok (.putfield 76, 3) := by decide +kernel
theorem dX10_readWord_5 : decode cX10_readWord 5 = .ok (.iconst 0, 1) := by decide +kernel
theorem dX10_readWord_6 : decode cX10_readWord 6 = .ok (.istore_n 1, 1) := by decide +kernel
theorem dX10_readWord_7 : decode cX10_readWord 7 = .ok (.iload_n 1, 1) := by decide +kernel
theorem dX10_readWord_8 : decode cX10_readWord 8 = .ok (.bipush 8, 2) := by decide +kernel
theorem dX10_readWord_10 : decode cX10_readWord 10 = .ok (.if_icmp .ge 54, 3) := by decide +kernel
theorem dX10_readWord_13 : decode cX10_readWord 13 = .ok (.aload_n 0, 1) := by decide +kernel
theorem dX10_readWord_14 : decode cX10_readWord 14 = .ok (.aload_n 0, 1) := by decide +kernel
theorem dX10_readWord_15 : decode cX10_readWord 15 = .ok (.getfield 54, 3) := by decide +kernel
theorem dX10_readWord_18 : decode cX10_readWord 18 = .ok (.invokevirtual 41, 3) := by decide +kernel
theorem dX10_readWord_21 : decode cX10_readWord 21 = .ok (.invokestatic 45, 3) := by decide +kernel
theorem dX10_readWord_24 : decode cX10_readWord 24 = .ok (.ifCond .eq 40, 3) := by decide +kernel
theorem dX10_readWord_27 : decode cX10_readWord 27 = .ok (.aload_n 0, 1) := by decide +kernel
theorem dX10_readWord_28 : decode cX10_readWord 28 = .ok (.aload_n 0, 1) := by decide +kernel
theorem dX10_readWord_29 : decode cX10_readWord 29 = .ok (.getfield 110, 3) := by decide +kernel
theorem dX10_readWord_32 : decode cX10_readWord 32 = .ok (.bipush 8, 2) := by decide +kernel
theorem dX10_readWord_34 : decode cX10_readWord 34 = .ok (.lshl, 1) := by decide +kernel
theorem dX10_readWord_35 : decode cX10_readWord 35 = .ok (.aload_n 0, 1) := by decide +kernel
theorem dX10_readWord_36 : decode cX10_readWord 36 = .ok (.aload_n 0, 1) := by decide +kernel
theorem dX10_readWord_37 : decode cX10_readWord 37 = .ok (.getfield 54, 3) := by decide +kernel
theorem dX10_readWord_40 : decode cX10_readWord 40 = .ok (.invokevirtual 41, 3) := by decide +kernel
theorem dX10_readWord_43 : decode cX10_readWord 43 = .ok (.i2l, 1) := by decide +kernel
theorem dX10_readWord_44 : decode cX10_readWord 44 = .ok (.lor, 1) := by decide +kernel
theorem dX10_readWord_45 : decode cX10_readWord 45 = .ok (.putfield 110, 3) := by decide +kernel
theorem dX10_readWord_48 : decode cX10_readWord 48 = .ok (.aload_n 0, 1) := by decide +kernel
theorem dX10_readWord_49 : decode cX10_readWord 49 = .ok (.dup, 1) := by decide +kernel
theorem dX10_readWord_50 : decode cX10_readWord 50 = .ok (.getfield 54, 3) := by decide +kernel
theorem dX10_readWord_53 : decode cX10_readWord 53 = .ok (.iconst 1, 1) := by decide +kernel
theorem dX10_readWord_54 : decode cX10_readWord 54 = .ok (.iadd, 1) := by decide +kernel
theorem dX10_readWord_55 : decode cX10_readWord 55 = .ok (.putfield 54, 3) := by decide +kernel
theorem dX10_readWord_58 : decode cX10_readWord 58 = .ok (.iinc 1 1, 3) := by decide +kernel
theorem dX10_readWord_61 : decode cX10_readWord 61 = .ok (.goto (-54), 3) := by decide +kernel
theorem dX10_readWord_64 : decode cX10_readWord 64 = .ok (.return_, 1) := by decide +kernel
theorem dX10_readNumber_0 : decode cX10_readNumber 0 = .ok (.aload_n 0, 1) := by decide +kernel
theorem dX10_readNumber_1 : decode cX10_readNumber 1 = .ok (.iconst 3, 1) := by decide +kernel
theorem dX10_readNumber_2 : decode cX10_readNumber 2 = .ok (.putfield 76, 3) := by decide +kernel
theorem dX10_readNumber_5 : decode cX10_readNumber 5 = .ok (.iload_n 1, 1) := by decide +kernel
theorem dX10_readNumber_6 : decode cX10_readNumber 6 = .ok (.ifCond .eq 13, 3) := by decide +kernel
theorem dX10_readNumber_9 : decode cX10_readNumber 9 = .ok (.aload_n 0, 1) := by decide +kernel
theorem dX10_readNumber_10 : decode cX10_readNumber 10 = .ok (.dup, 1) := by decide +kernel
theorem dX10_readNumber_11 : decode cX10_readNumber 11 = .ok (.getfield 54, 3) := by decide +kernel
theorem dX10_readNumber_14 : decode cX10_readNumber 14 = .ok (.iconst 1, 1) := by decide +kernel
theorem dX10_readNumber_15 : decode cX10_readNumber 15 = .ok (.iadd, 1) := by decide +kernel
theorem dX10_readNumber_16 : decode cX10_readNumber 16 = .ok (.putfield 54, 3) := by decide +kernel
theorem dX10_readNumber_19 : decode cX10_readNumber 19 = .ok (.aload_n 0, 1) := by decide +kernel
theorem dX10_readNumber_20 : decode cX10_readNumber 20 = .ok (.invokevirtual 145, 3) := by decide +kernel
theorem dX10_readNumber_23 : decode cX10_readNumber 23 = .ok (.istore_n 2, 1) := by decide +kernel
theorem dX10_readNumber_24 : decode cX10_readNumber 24 = .ok (.aload_n 0, 1) := by decide +kernel
theorem dX10_readNumber_25 : decode cX10_readNumber 25 = .ok (.iload_n 1, 1) := by decide +kernel
theorem dX10_readNumber_26 : decode cX10_readNumber 26 = .ok (.ifCond .eq 8, 3) := by decide +kernel
theorem dX10_readNumber_29 : decode cX10_readNumber 29 = .ok (.iload_n 2, 1) := by decide +kernel
theorem dX10_readNumber_30 : decode cX10_readNumber 30 = .ok (.ineg, 1) := by decide +kernel
theorem dX10_readNumber_31 : decode cX10_readNumber 31 = .ok (.goto 4, 3) := by decide +kernel
theorem dX10_readNumber_34 : decode cX10_readNumber 34 = .ok (.iload_n 2, 1) := by decide +kernel
theorem dX10_readNumber_35 : decode cX10_readNumber 35 = .ok (.putfield 114, 3) := by decide +kernel
theorem dX10_readNumber_38 : decode cX10_readNumber 38 = .ok (.aload_n 0, 1) := by decide +kernel
theorem dX10_readNumber_39 : decode cX10_readNumber 39 = .ok (.aload_n 0, 1) := by decide +kernel
theorem dX10_readNumber_40 : decode cX10_readNumber 40 = .ok (.getfield 54, 3) := by decide +kernel
theorem dX10_readNumber_43 : decode cX10_readNumber 43 = .ok (.invokevirtual 41, 3) := by decide +kernel
theorem dX10_readNumber_46 : decode cX10_readNumber 46 = .ok (.bipush 47, 2) := by decide +kernel
theorem dX10_readNumber_48 : decode cX10_readNumber 48 = .ok (.if_icmp .ne 49, 3) := by decide +kernel
theorem dX10_readNumber_51 : decode cX10_readNumber 51 = .ok (.aload_n 0, 1) := by decide +kernel
theorem dX10_readNumber_52 : decode cX10_readNumber 52 = .ok (.aload_n 0, 1) := by decide +kernel
theorem dX10_readNumber_53 : decode cX10_readNumber 53 = .ok (.getfield 54, 3) := by decide +kernel
theorem dX10_readNumber_56 : decode cX10_readNumber 56 = .ok (.iconst 1, 1) := by decide +kernel
theorem dX10_readNumber_57 : decode cX10_readNumber 57 = .ok (.iadd, 1) := by decide +kernel
theorem dX10_readNumber_58 : decode cX10_readNumber 58 = .ok (.invokevirtual 41, 3) := by decide +kernel
theorem dX10_readNumber_61 : decode cX10_readNumber 61 = .ok (.invokestatic 138, 3) := by decide +kernel
theorem dX10_readNumber_64 : decode cX10_readNumber 64 = .ok (.ifCond .eq 33, 3) := by decide +kernel
theorem dX10_readNumber_67 : decode cX10_readNumber 67 = .ok (.aload_n 0, 1) := by decide +kernel
theorem dX10_readNumber_68 : decode cX10_readNumber 68 = .ok (.dup, 1) := by decide +kernel
theorem dX10_readNumber_69 : decode cX10_readNumber 69 = .ok (.getfield 54, 3) := by decide +kernel
theorem dX10_readNumber_72 : decode cX10_readNumber 72 = .ok (.iconst 1, 1) := by decide +kernel
theorem dX10_readNumber_73 : decode cX10_readNumber 73 = .ok (.iadd, 1) := by decide +kernel
theorem dX10_readNumber_74 : decode cX10_readNumber 74 = .ok (.putfield 54, 3) := by decide +kernel
theorem dX10_readNumber_77 : decode cX10_readNumber 77 = .ok (.aload_n 0, 1) := by decide +kernel
theorem dX10_readNumber_78 : decode cX10_readNumber 78 = .ok (.aload_n 0, 1) := by decide +kernel
theorem dX10_readNumber_79 : decode cX10_readNumber 79 = .ok (.invokevirtual 145, 3) := by decide +kernel
theorem dX10_readNumber_82 : decode cX10_readNumber 82 = .ok (.putfield 117, 3) := by decide +kernel
theorem dX10_readNumber_85 : decode cX10_readNumber 85 = .ok (.aload_n 0, 1) := by decide +kernel
theorem dX10_readNumber_86 : decode cX10_readNumber 86 = .ok (.getfield 117, 3) := by decide +kernel
theorem dX10_readNumber_89 : decode cX10_readNumber 89 = .ok (.ifCond .ne 8, 3) := by decide +kernel
theorem dX10_readNumber_92 : decode cX10_readNumber 92 = .ok (.aload_n 0, 1) := by decide +kernel
theorem dX10_readNumber_93 : decode cX10_readNumber 93 = .ok (.iconst 1, 1) := by decide +kernel
theorem dX10_readNumber_94 : decode cX10_readNumber 94 = .ok (.putfield 76, 3) := by decide +kernel
theorem dX10_readNumber_97 : decode cX10_readNumber 97 = .ok (.return_, 1) := by decide +kernel
theorem dX10_readDigits_0 : decode cX10_readDigits 0 = .ok (.iconst 0, 1) := by decide +kernel
theorem dX10_readDigits_1 : decode cX10_readDigits 1 = .ok (.istore_n 1, 1) := by decide +kernel
theorem dX10_readDigits_2 : decode cX10_readDigits 2 = .ok (.iconst 0, 1) := by decide +kernel
theorem dX10_readDigits_3 : decode cX10_readDigits 3 = .ok (.istore_n 2, 1) := by decide +kernel
theorem dX10_readDigits_4 : decode cX10_readDigits 4 = .ok (.iload_n 2, 1) := by decide +kernel
theorem dX10_readDigits_5 : decode cX10_readDigits 5 = .ok (.iconst 4, 1) := by decide +kernel
theorem dX10_readDigits_6 : decode cX10_readDigits 6 = .ok (.if_icmp .ge 50, 3) := by decide +kernel
theorem dX10_readDigits_9 : decode cX10_readDigits 9 = .ok (.aload_n 0, 1) := by decide +kernel
theorem dX10_readDigits_10 : decode cX10_readDigits 10 = .ok (.aload_n 0, 1) := by decide +kernel
theorem dX10_readDigits_11 : decode cX10_readDigits 11 = .ok (.getfield 54, 3) := by decide +kernel
theorem dX10_readDigits_14 : decode cX10_readDigits 14 = .ok (.invokevirtual 41, 3) := by decide +kernel
theorem dX10_readDigits_17 : decode cX10_readDigits 17 = .ok (.invokestatic 138, 3) := by decide +kernel
theorem dX10_readDigits_20 : decode cX10_readDigits 20 = .ok (.ifCond .eq 36, 3) := by decide +kernel
theorem dX10_readDigits_23 : decode cX10_readDigits 23 = .ok (.bipush 10, 2) := by decide +kernel
theorem dX10_readDigits_25 : decode cX10_readDigits 25 = .ok (.iload_n 1, 1) := by decide +kernel
theorem dX10_readDigits_26 : decode cX10_readDigits 26 = .ok (.imul, 1) := by decide +kernel
theorem dX10_readDigits_27 : decode cX10_readDigits 27 = .ok (.aload_n 0, 1) := by decide +kernel
theorem dX10_readDigits_28 : decode cX10_readDigits 28 = .ok (.aload_n 0, 1) := by decide +kernel
theorem dX10_readDigits_29 : decode cX10_readDigits 29 = .ok (.getfield 54, 3) := by decide +kernel
theorem dX10_readDigits_32 : decode cX10_readDigits 32 = .ok (.invokevirtual 41, 3) := by decide +kernel
theorem dX10_readDigits_35 : decode cX10_readDigits 35 = .ok (.iadd, 1) := by decide +kernel
theorem dX10_readDigits_36 : decode cX10_readDigits 36 = .ok (.bipush 48, 2) := by decide +kernel
theorem dX10_readDigits_38 : decode cX10_readDigits 38 = .ok (.isub, 1) := by decide +kernel
theorem dX10_readDigits_39 : decode cX10_readDigits 39 = .ok (.istore_n 1, 1) := by decide +kernel
theorem dX10_readDigits_40 : decode cX10_readDigits 40 = .ok (.aload_n 0, 1) := by decide +kernel
theorem dX10_readDigits_41 : decode cX10_readDigits 41 = .ok (.dup, 1) := by decide +kernel
theorem dX10_readDigits_42 : decode cX10_readDigits 42 = .ok (.getfield 54, 3) := by decide +kernel
theorem dX10_readDigits_45 : decode cX10_readDigits 45 = .ok (.iconst 1, 1) := by decide +kernel
theorem dX10_readDigits_46 : decode cX10_readDigits 46 = .ok (.iadd, 1) := by decide +kernel
theorem dX10_readDigits_47 : decode cX10_readDigits 47 = .ok (.putfield 54, 3) := by decide +kernel
theorem dX10_readDigits_50 : decode cX10_readDigits 50 = .ok (.iinc 2 1, 3) := by decide +kernel
theorem dX10_readDigits_53 : decode cX10_readDigits 53 = .ok (.goto (-49), 3) := by decide +kernel
theorem dX10_readDigits_56 : decode cX10_readDigits 56 = .ok (.iload_n 1, 1) := by decide +kernel
theorem dX10_readDigits_57 : decode cX10_readDigits 57 = .ok (.ireturn, 1) := by decide +kernel
theorem dX10_byteAt_0 : decode cX10_byteAt 0 = .ok (.iload_n 1, 1) := by decide +kernel
theorem dX10_byteAt_1 : decode cX10_byteAt 1 = .ok (.ifCond .lt 24, 3) := by decide +kernel
theorem dX10_byteAt_4 : decode cX10_byteAt 4 = .ok (.iload_n 1, 1) := by decide +kernel
theorem dX10_byteAt_5 : decode cX10_byteAt 5 = .ok (.aload_n 0, 1) := by decide +kernel
theorem dX10_byteAt_6 : decode cX10_byteAt 6 = .ok (.getfield 33, 3) := by decide +kernel
theorem dX10_byteAt_9 : decode cX10_byteAt 9 = .ok (.if_icmp .ge 16, 3) := by decide +kernel
theorem dX10_byteAt_12 : decode cX10_byteAt 12 = .ok (.aload_n 0, 1) := by decide +kernel
theorem dX10_byteAt_13 : decode cX10_byteAt 13 = .ok (.getfield 9, 3) := by decide +kernel
theorem dX10_byteAt_16 : decode cX10_byteAt 16 = .ok (.iload_n 1, 1) := by decide +kernel
theorem dX10_byteAt_17 : decode cX10_byteAt 17 = .ok (.baload, 1) := by decide +kernel
theorem dX10_byteAt_18 : decode cX10_byteAt 18 = .ok (.sipush 255, 3) := by decide +kernel
theorem dX10_byteAt_21 : decode cX10_byteAt 21 = .ok (.iand, 1) := by decide +kernel
theorem dX10_byteAt_22 : decode cX10_byteAt 22 = .ok (.goto 4, 3) := by decide +kernel
theorem dX10_byteAt_25 : decode cX10_byteAt 25 = .ok (.iconst (-1), 1) := by decide +kernel
theorem dX10_byteAt_26 : decode cX10_byteAt 26 = .ok (.ireturn, 1) := by decide +kernel
theorem dX10_isLetter_0 : decode cX10_isLetter 0 = .ok (.iload_n 0, 1) := by decide +kernel
theorem dX10_isLetter_1 : decode cX10_isLetter 1 = .ok (.bipush 97, 2) := by decide +kernel
theorem dX10_isLetter_3 : decode cX10_isLetter 3 = .ok (.if_icmp .lt 9, 3) := by decide +kernel
theorem dX10_isLetter_6 : decode cX10_isLetter 6 = .ok (.iload_n 0, 1) := by decide +kernel
theorem dX10_isLetter_7 : decode cX10_isLetter 7 = .ok (.bipush 122, 2) := by decide +kernel
theorem dX10_isLetter_9 : decode cX10_isLetter 9 = .ok (.if_icmp .le 15, 3) := by decide +kernel
theorem dX10_isLetter_12 : decode cX10_isLetter 12 = .ok (.iload_n 0, 1) := by decide +kernel
theorem dX10_isLetter_13 : decode cX10_isLetter 13 = .ok (.bipush 65, 2) := by decide +kernel
theorem dX10_isLetter_15 : decode cX10_isLetter 15 = .ok (.if_icmp .lt 13, 3) := by decide +kernel
theorem dX10_isLetter_18 : decode cX10_isLetter 18 = .ok (.iload_n 0, 1) := by decide +kernel
theorem dX10_isLetter_19 : decode cX10_isLetter 19 = .ok (.bipush 90, 2) := by decide +kernel
theorem dX10_isLetter_21 : decode cX10_isLetter 21 = .ok (.if_icmp .gt 7, 3) := by decide +kernel
theorem dX10_isLetter_24 : decode cX10_isLetter 24 = .ok (.iconst 1, 1) := by decide +kernel
theorem dX10_isLetter_25 : decode cX10_isLetter 25 = .ok (.goto 4, 3) := by decide +kernel
theorem dX10_isLetter_28 : decode cX10_isLetter 28 = .ok (.iconst 0, 1) := by decide +kernel
theorem dX10_isLetter_29 : decode cX10_isLetter 29 = .ok (.ireturn, 1) := by decide +kernel
theorem dX10_isDigit_0 : decode cX10_isDigit 0 = .ok (.iload_n 0, 1) := by decide +kernel
theorem dX10_isDigit_1 : decode cX10_isDigit 1 = .ok (.bipush 48, 2) := by decide +kernel
theorem dX10_isDigit_3 : decode cX10_isDigit 3 = .ok (.if_icmp .lt 13, 3) := by decide +kernel
theorem dX10_isDigit_6 : decode cX10_isDigit 6 = .ok (.iload_n 0, 1) := by decide +kernel
theorem dX10_isDigit_7 : decode cX10_isDigit 7 = .ok (.bipush 57, 2) := by decide +kernel
theorem dX10_isDigit_9 : decode cX10_isDigit 9 = .ok (.if_icmp .gt 7, 3) := by decide +kernel
theorem dX10_isDigit_12 : decode cX10_isDigit 12 = .ok (.iconst 1, 1) := by decide +kernel
theorem dX10_isDigit_13 : decode cX10_isDigit 13 = .ok (.goto 4, 3) := by decide +kernel
theorem dX10_isDigit_16 : decode cX10_isDigit 16 = .ok (.iconst 0, 1) := by decide +kernel
theorem dX10_isDigit_17 : decode cX10_isDigit 17 = .ok (.ireturn, 1) := by decide +kernel
theorem dX11_init_0 : decode cX11_init 0 = .ok (.aload_n 0, 1) := by decide +kernel
theorem dX11_init_1 : decode cX11_init 1 = .ok (.invokespecial 1, 3) := by decide +kernel
theorem dX11_init_4 : decode cX11_init 4 = .ok (.aload_n 0, 1) := by decide +kernel
theorem dX11_init_5 : decode cX11_init 5 = .ok (.new 7, 3) := by decide +kernel
theorem dX11_init_8 : decode cX11_init 8 = .ok (.dup, 1) := by decide +kernel
theorem dX11_init_9 : decode cX11_init 9 = .ok (.invokespecial 9, 3) := by decide +kernel
theorem dX11_init_12 : decode cX11_init 12 = .ok (.putfield 10, 3) := by decide +kernel
theorem dX11_init_15 : decode cX11_init 15 = .ok (.aload_n 0, 1) := by decide +kernel
theorem dX11_init_16 : decode cX11_init 16 = .ok (.new 16, 3) := by decide +kernel
theorem dX11_init_19 : decode cX11_init 19 = .ok (.dup, 1) := by decide +kernel
theorem dX11_init_20 : decode cX11_init 20 = .ok (.invokespecial 18, 3) := by decide +kernel
theorem dX11_init_23 : decode cX11_init 23 = .ok (.putfield 19, 3) := by decide +kernel
theorem dX11_init_26 : decode cX11_init 26 = .ok (.aload_n 0, 1) := by decide +kernel
theorem dX11_init_27 : decode cX11_init 27 = .ok (.bipush 8, 2) := by decide +kernel
theorem dX11_init_29 : decode cX11_init 29 = .ok (.anewarray 23, 3) := by decide +kernel
theorem dX11_init_32 : decode cX11_init 32 = .ok (.putfield 25, 3) := by decide +kernel
theorem dX11_init_35 : decode cX11_init 35 = .ok (.iconst 0, 1) := by decide +kernel
theorem dX11_init_36 : decode cX11_init 36 = .ok (.istore_n 1, 1) := by decide +kernel
theorem dX11_init_37 : decode cX11_init 37 = .ok (.iload_n 1, 1) := by decide +kernel
theorem dX11_init_38 : decode cX11_init 38 = .ok (.bipush 8, 2) := by decide +kernel
theorem dX11_init_40 : decode cX11_init 40 = .ok (.if_icmp .ge 22, 3) := by decide +kernel
theorem dX11_init_43 : decode cX11_init 43 = .ok (.aload_n 0, 1) := by decide +kernel
theorem dX11_init_44 : decode cX11_init 44 = .ok (.getfield 25, 3) := by decide +kernel
theorem dX11_init_47 : decode cX11_init 47 = .ok (.iload_n 1, 1) := by decide +kernel
theorem dX11_init_48 : decode cX11_init 48 = .ok (.new 23, 3) := by decide +kernel
theorem dX11_init_51 : decode cX11_init 51 = .ok (.dup, 1) := by decide +kernel
theorem dX11_init_52 : decode cX11_init 52 = .ok (.invokespecial 29, 3) := by decide +kernel
theorem dX11_init_55 : decode cX11_init 55 = .ok (.aastore, 1) := by decide +kernel
theorem dX11_init_56 : decode cX11_init 56 = .ok (.iinc 1 1, 3) := by decide +kernel
theorem dX11_init_59 : decode cX11_init 59 = .ok (.goto (-22), 3) := by decide +kernel
theorem dX11_init_62 : decode cX11_init 62 = .ok (.aload_n 0, 1) := by decide +kernel
theorem dX11_init_63 : decode cX11_init 63 = .ok (.new 30, 3) := by decide +kernel
theorem dX11_init_66 : decode cX11_init 66 = .ok (.dup, 1) := by decide +kernel
theorem dX11_init_67 : decode cX11_init 67 = .ok (.invokespecial 32, 3) := by decide +kernel
theorem dX11_init_70 : decode cX11_init 70 = .ok (.putfield 33, 3) := by decide +kernel
theorem dX11_init_73 : decode cX11_init 73 = .ok (.aload_n 0, 1) := by decide +kernel
theorem dX11_init_74 : decode cX11_init 74 = .ok (.new 37, 3) := by decide +kernel
theorem dX11_init_77 : decode cX11_init 77 = .ok (.dup, 1) := by decide +kernel
theorem dX11_init_78 : decode cX11_init 78 = .ok (.invokespecial 39, 3) := by decide +kernel
theorem dX11_init_81 : decode cX11_init 81 = .ok (.putfield 40, 3) := by decide +kernel
theorem dX11_init_84 : decode cX11_init 84 = .ok (.aload_n 0, 1) := by decide +kernel
theorem dX11_init_85 : decode cX11_init 85 = .ok (.new 44, 3) := by decide +kernel
theorem dX11_init_88 : decode cX11_init 88 = .ok (.dup, 1) := by decide +kernel
theorem dX11_init_89 : decode cX11_init 89 = .ok (.invokespecial 46, 3) := by decide +kernel
theorem dX11_init_92 : decode cX11_init 92 = .ok (.putfield 47, 3) := by decide +kernel
theorem dX11_init_95 : decode cX11_init 95 = .ok (.aload_n 0, 1) := by decide +kernel
theorem dX11_init_96 : decode cX11_init 96 = .ok (.new 51, 3) := by decide +kernel
theorem dX11_init_99 : decode cX11_init 99 = .ok (.dup, 1) := by decide +kernel
theorem dX11_init_100 : decode cX11_init 100 = .ok (.invokespecial 53, 3) := by decide +kernel
theorem dX11_init_103 : decode cX11_init 103 = .ok (.putfield 54, 3) := by decide +kernel
theorem dX11_init_106 : decode cX11_init 106 = .ok (.aload_n 0, 1) := by decide +kernel
theorem dX11_init_107 : decode cX11_init 107 = .ok (.new 51, 3) := by decide +kernel
theorem dX11_init_110 : decode cX11_init 110 = .ok (.dup, 1) := by decide +kernel
theorem dX11_init_111 : decode cX11_init 111 = .ok (.invokespecial 53, 3) := by decide +kernel
theorem dX11_init_114 : decode cX11_init 114 = .ok (.putfield 58, 3) := by decide +kernel
theorem dX11_init_117 : decode cX11_init 117 = .ok (.aload_n 0, 1) := by decide +kernel
theorem dX11_init_118 : decode cX11_init 118 = .ok (.new 61, 3) := by decide +kernel
theorem dX11_init_121 : decode cX11_init 121 = .ok (.dup, 1) := by decide +kernel
theorem dX11_init_122 : decode cX11_init 122 = .ok (.invokespecial 63, 3) := by decide +kernel
theorem dX11_init_125 : decode cX11_init 125 = .ok (.putfield 64, 3) := by decide +kernel
theorem dX11_init_128 : decode cX11_init 128 = .ok (.aload_n 0, 1) := by decide +kernel
theorem dX11_init_129 : decode cX11_init 129 = .ok (.new 61, 3) := by decide +kernel
theorem dX11_init_132 : decode cX11_init 132 = .ok (.dup, 1) := by decide +kernel
theorem dX11_init_133 : decode cX11_init 133 = .ok (.invokespecial 63, 3) := by decide +kernel
theorem dX11_init_136 : decode cX11_init 136 = .ok (.putfield 68, 3) := by decide +kernel
theorem dX11_init_139 : decode cX11_init 139 = .ok (.return_, 1) := by decide +kernel
theorem dX11_feed_0 : decode cX11_feed 0 = .ok (.aload_n 0, 1) := by decide +kernel
theorem dX11_feed_1 : decode cX11_feed 1 = .ok (.getfield 10, 3) := by decide +kernel
theorem dX11_feed_4 : decode cX11_feed 4 = .ok (.bipush 20, 2) := by decide +kernel
theorem dX11_feed_6 : decode cX11_feed 6 = .ok (.invokevirtual 71, 3) := by decide +kernel
theorem dX11_feed_9 : decode cX11_feed 9 = .ok (.ifCond .ne 11, 3) := by decide +kernel
theorem dX11_feed_12 : decode cX11_feed 12 = .ok (.new 75, 3) := by decide +kernel
theorem dX11_feed_15 : decode cX11_feed 15 = .ok (.dup, 1) := by decide +kernel
theorem dX11_feed_16 : decode cX11_feed 16 = .ok (.invokespecial 77, 3) := by decide +kernel
theorem dX11_feed_19 : decode cX11_feed 19 = .ok (.athrow, 1) := by decide +kernel
theorem dX11_feed_20 : decode cX11_feed 20 = .ok (.aload_n 0, 1) := by decide +kernel
theorem dX11_feed_21 : decode cX11_feed 21 = .ok (.getfield 10, 3) := by decide +kernel
theorem dX11_feed_24 : decode cX11_feed 24 = .ok (.iload_n 1, 1) := by decide +kernel
theorem dX11_feed_25 : decode cX11_feed 25 = .ok (.invokevirtual 78, 3) := by decide +kernel
theorem dX11_feed_28 : decode cX11_feed 28 = .ok (.aload_n 0, 1) := by decide +kernel
theorem dX11_feed_29 : decode cX11_feed 29 = .ok (.getfield 10, 3) := by decide +kernel
theorem dX11_feed_32 : decode cX11_feed 32 = .ok (.iload_n 2, 1) := by decide +kernel
theorem dX11_feed_33 : decode cX11_feed 33 = .ok (.invokevirtual 78, 3) := by decide +kernel
theorem dX11_feed_36 : decode cX11_feed 36 = .ok (.aload_n 0, 1) := by decide +kernel
theorem dX11_feed_37 : decode cX11_feed 37 = .ok (.getfield 10, 3) := by decide +kernel
theorem dX11_feed_40 : decode cX11_feed 40 = .ok (.iload_n 3, 1) := by decide +kernel
theorem dX11_feed_41 : decode cX11_feed 41 = .ok (.invokevirtual 78, 3) := by decide +kernel
theorem dX11_feed_44 : decode cX11_feed 44 = .ok (.aload_n 0, 1) := by decide +kernel
theorem dX11_feed_45 : decode cX11_feed 45 = .ok (.getfield 10, 3) := by decide +kernel
theorem dX11_feed_48 : decode cX11_feed 48 = .ok (.iload 4, 2) := by decide +kernel
theorem dX11_feed_50 : decode cX11_feed 50 = .ok (.invokevirtual 78, 3) := by decide +kernel
theorem dX11_feed_53 : decode cX11_feed 53 = .ok (.aload_n 0, 1) := by decide +kernel
theorem dX11_feed_54 : decode cX11_feed 54 = .ok (.getfield 10, 3) := by decide +kernel
theorem dX11_feed_57 : decode cX11_feed 57 = .ok (.iload 5, 2) := by decide +kernel
theorem dX11_feed_59 : decode cX11_feed 59 = .ok (.invokevirtual 78, 3) := by decide +kernel
theorem dX11_feed_62 : decode cX11_feed 62 = .ok (.aload_n 0, 1) := by decide +kernel
theorem dX11_feed_63 : decode cX11_feed 63 = .ok (.getfield 10, 3) := by decide +kernel
theorem dX11_feed_66 : decode cX11_feed 66 = .ok (.getfield 82, 3) := by decide +kernel
theorem dX11_feed_69 : decode cX11_feed 69 = .ok (.ireturn, 1) := by decide +kernel
theorem dX11_end_0 : decode cX11_end 0 = .ok (.iload_n 1, 1) := by decide +kernel
theorem dX11_end_1 : decode cX11_end 1 = .ok (.iconst 0, 1) := by decide +kernel
theorem dX11_end_2 : decode cX11_end 2 = .ok (.aload_n 0, 1) := by decide +kernel
theorem dX11_end_3 : decode cX11_end 3 = .ok (.getfield 10, 3) := by decide +kernel
theorem dX11_end_6 : decode cX11_end 6 = .ok (.getfield 82, 3) := by decide +kernel
theorem dX11_end_9 : decode cX11_end 9 = .ok (.invokestatic 86, 3) := by decide +kernel
theorem dX11_end_12 : decode cX11_end 12 = .ok (.aload_n 0, 1) := by decide +kernel
theorem dX11_end_13 : decode cX11_end 13 = .ok (.getfield 10, 3) := by decide +kernel
theorem dX11_end_16 : decode cX11_end 16 = .ok (.iload_n 1, 1) := by decide +kernel
theorem dX11_end_17 : decode cX11_end 17 = .ok (.putfield 82, 3) := by decide +kernel
theorem dX11_end_20 : decode cX11_end 20 = .ok (.iload_n 1, 1) := by decide +kernel
theorem dX11_end_21 : decode cX11_end 21 = .ok (.ireturn, 1) := by decide +kernel
theorem dX11_fault_0 : decode cX11_fault 0 = .ok (.iload_n 1, 1) := by decide +kernel
theorem dX11_fault_1 : decode cX11_fault 1 = .ok (.ifCond .ne 11, 3) := by decide +kernel
theorem dX11_fault_4 : decode cX11_fault 4 = .ok (.aload_n 0, 1) := by decide +kernel
theorem dX11_fault_5 : decode cX11_fault 5 = .ok (.getfield 10, 3) := by decide +kernel
theorem dX11_fault_8 : decode cX11_fault 8 = .ok (.getfield 90, 3) := by decide +kernel
theorem dX11_fault_11 : decode cX11_fault 11 = .ok (.ireturn, 1) := by decide +kernel
theorem dX11_fault_12 : decode cX11_fault 12 = .ok (.iload_n 1, 1) := by decide +kernel
theorem dX11_fault_13 : decode cX11_fault 13 = .ok (.iconst 1, 1) := by decide +kernel
theorem dX11_fault_14 : decode cX11_fault 14 = .ok (.if_icmp .ne 13, 3) := by decide +kernel
theorem dX11_fault_17 : decode cX11_fault 17 = .ok (.aload_n 0, 1) := by decide +kernel
theorem dX11_fault_18 : decode cX11_fault 18 = .ok (.getfield 10, 3) := by decide +kernel
theorem dX11_fault_21 : decode cX11_fault 21 = .ok (.getfield 93, 3) := by decide +kernel
theorem dX11_fault_24 : decode cX11_fault 24 = .ok (.goto 4, 3) := by decide +kernel
theorem dX11_fault_27 : decode cX11_fault 27 = .ok (.iconst (-1), 1) := by decide +kernel
theorem dX11_fault_28 : decode cX11_fault 28 = .ok (.ireturn, 1) := by decide +kernel
theorem dX11_linkage_0 : decode cX11_linkage 0 = .ok (.aload_n 0, 1) := by decide +kernel
theorem dX11_linkage_1 : decode cX11_linkage 1 = .ok (.getfield 58, 3) := by decide +kernel
theorem dX11_linkage_4 : decode cX11_linkage 4 = .ok (.aload_n 0, 1) := by decide +kernel
theorem dX11_linkage_5 : decode cX11_linkage 5 = .ok (.getfield 10, 3) := by decide +kernel
theorem dX11_linkage_8 : decode cX11_linkage 8 = .ok (.invokevirtual 96, 3) := by decide +kernel
theorem dX11_linkage_11 : decode cX11_linkage 11 = .ok (.istore_n 1, 1) := by decide +kernel
theorem dX11_linkage_12 : decode cX11_linkage 12 = .ok (.aload_n 0, 1) := by decide +kernel
theorem dX11_linkage_13 : decode cX11_linkage 13 = .ok (.getfield 10, 3) := by decide +kernel
theorem dX11_linkage_16 : decode cX11_linkage 16 = .ok (.iconst 0, 1) := by decide +kernel
theorem dX11_linkage_17 : decode cX11_linkage 17 = .ok (.putfield 82, 3) := by decide +kernel
theorem dX11_linkage_20 : decode cX11_linkage 20 = .ok (.iload_n 1, 1) := by decide +kernel
theorem dX11_linkage_21 : decode cX11_linkage 21 = .ok (.ifCond .ne 11, 3) := by decide +kernel
theorem dX11_linkage_24 : decode cX11_linkage 24 = .ok (.new 100, 3) := by decide +kernel
theorem dX11_linkage_27 : decode cX11_linkage 27 = .ok (.dup, 1) := by decide +kernel
theorem dX11_linkage_28 : decode cX11_linkage 28 = .ok (.invokespecial 102, 3) := by decide +kernel
theorem dX11_linkage_31 : decode cX11_linkage 31 = .ok (.athrow, 1) := by decide +kernel
theorem dX11_linkage_32 : decode cX11_linkage 32 = .ok (.aload_n 0, 1) := by decide +kernel
theorem dX11_linkage_33 : decode cX11_linkage 33 = .ok (.getfield 54, 3) := by decide +kernel
theorem dX11_linkage_36 : decode cX11_linkage 36 = .ok (.astore_n 2, 1) := by decide +kernel
theorem dX11_linkage_37 : decode cX11_linkage 37 = .ok (.aload_n 0, 1) := by decide +kernel
theorem dX11_linkage_38 : decode cX11_linkage 38 = .ok (.aload_n 0, 1) := by decide +kernel
theorem dX11_linkage_39 : decode cX11_linkage 39 = .ok (.getfield 58, 3) := by decide +kernel
theorem dX11_linkage_42 : decode cX11_linkage 42 = .ok (.putfield 54, 3) := by decide +kernel
theorem dX11_linkage_45 : decode cX11_linkage 45 = .ok (.aload_n 0, 1) := by decide +kernel
theorem dX11_linkage_46 : decode cX11_linkage 46 = .ok (.aload_n 2, 1) := by decide +kernel
theorem dX11_linkage_47 : decode cX11_linkage 47 = .ok (.putfield 58, 3) := by decide +kernel
theorem dX11_linkage_50 : decode cX11_linkage 50 = .ok (.aload_n 0, 1) := by decide +kernel
theorem dX11_linkage_51 : decode cX11_linkage 51 = .ok (.getfield 54, 3) := by decide +kernel
theorem dX11_linkage_54 : decode cX11_linkage 54 = .ok (.getfield 103, 3) := by decide +kernel
theorem dX11_linkage_57 : decode cX11_linkage 57 = .ok (.ireturn, 1) := by decide +kernel
theorem dX11_point_0 : decode cX11_point 0 = .ok (.aload_n 0, 1) := by decide +kernel
theorem dX11_point_1 : decode cX11_point 1 = .ok (.getfield 54, 3) := by decide +kernel
theorem dX11_point_4 : decode cX11_point 4 = .ok (.aload_n 0, 1) := by decide +kernel
theorem dX11_point_5 : decode cX11_point 5 = .ok (.getfield 10, 3) := by decide +kernel
theorem dX11_point_8 : decode cX11_point 8 = .ok (.invokevirtual 106, 3) := by decide +kernel
theorem dX11_point_11 : decode cX11_point 11 = .ok (.invokevirtual 110, 3) := by decide +kernel
theorem dX11_point_14 : decode cX11_point 14 = .ok (.ireturn, 1) := by decide +kernel
theorem dX11_input_0 : decode cX11_input 0 = .ok (.iload_n 1, 1) := by decide +kernel
theorem dX11_input_1 : decode cX11_input 1 = .ok (.iconst 0, 1) := by decide +kernel
theorem dX11_input_2 : decode cX11_input 2 = .ok (.iconst 3, 1) := by decide +kernel
theorem dX11_input_3 : decode cX11_input 3 = .ok (.invokestatic 86, 3) := by decide +kernel
theorem dX11_input_6 : decode cX11_input 6 = .ok (.iload_n 2, 1) := by decide +kernel
theorem dX11_input_7 : decode cX11_input 7 = .ok (.iconst 0, 1) := by decide +kernel
theorem dX11_input_8 : decode cX11_input 8 = .ok (.sipush 1023, 3) := by decide +kernel
theorem dX11_input_11 : decode cX11_input 11 = .ok (.invokestatic 86, 3) := by decide +kernel
theorem dX11_input_14 : decode cX11_input 14 = .ok (.aload_n 0, 1) := by decide +kernel
theorem dX11_input_15 : decode cX11_input 15 = .ok (.getfield 54, 3) := by decide +kernel
theorem dX11_input_18 : decode cX11_input 18 = .ok (.iload_n 1, 1) := by decide +kernel
theorem dX11_input_19 : decode cX11_input 19 = .ok (.iload_n 2, 1) := by decide +kernel
theorem dX11_input_20 : decode cX11_input 20 = .ok (.invokevirtual 114, 3) := by decide +kernel
theorem dX11_input_23 : decode cX11_input 23 = .ok (.return_, 1) := by decide +kernel
theorem dX11_ways_0 : decode cX11_ways 0 = .ok (.aload_n 0, 1) := by decide +kernel
theorem dX11_ways_1 : decode cX11_ways 1 = .ok (.getfield 54, 3) := by decide +kernel
theorem dX11_ways_4 : decode cX11_ways 4 = .ok (.invokevirtual 118, 3) := by decide +kernel
theorem dX11_ways_7 : decode cX11_ways 7 = .ok (.aload_n 0, 1) := by decide +kernel
theorem dX11_ways_8 : decode cX11_ways 8 = .ok (.getfield 54, 3) := by decide +kernel
theorem dX11_ways_11 : decode cX11_ways 11 = .ok (.getfield 121, 3) := by decide +kernel
theorem dX11_ways_14 : decode cX11_ways 14 = .ok (.ireturn, 1) := by decide +kernel
theorem dX11_way_0 : decode cX11_way 0 = .ok (.iload_n 2, 1) := by decide +kernel
theorem dX11_way_1 : decode cX11_way 1 = .ok (.iconst 0, 1) := by decide +kernel
theorem dX11_way_2 : decode cX11_way 2 = .ok (.iconst 1, 1) := by decide +kernel
theorem dX11_way_3 : decode cX11_way 3 = .ok (.invokestatic 86, 3) := by decide +kernel
theorem dX11_way_6 : decode cX11_way 6 = .ok (.aload_n 0, 1) := by decide +kernel
theorem dX11_way_7 : decode cX11_way 7 = .ok (.getfield 54, 3) := by decide +kernel
theorem dX11_way_10 : decode cX11_way 10 = .ok (.invokevirtual 118, 3) := by decide +kernel
theorem dX11_way_13 : decode cX11_way 13 = .ok (.iload_n 1, 1) := by decide +kernel
theorem dX11_way_14 : decode cX11_way 14 = .ok (.aload_n 0, 1) := by decide +kernel
theorem dX11_way_15 : decode cX11_way 15 = .ok (.getfield 54, 3) := by decide +kernel
theorem dX11_way_18 : decode cX11_way 18 = .ok (.getfield 121, 3) := by decide +kernel
theorem dX11_way_21 : decode cX11_way 21 = .ok (.invokestatic 124, 3) := by decide +kernel
theorem dX11_way_24 : decode cX11_way 24 = .ok (.invokestatic 128, 3) := by decide +kernel
theorem dX11_way_27 : decode cX11_way 27 = .ok (.iload_n 2, 1) := by decide +kernel
theorem dX11_way_28 : decode cX11_way 28 = .ok (.ifCond .ne 15, 3) := by decide +kernel
theorem dX11_way_31 : decode cX11_way 31 = .ok (.aload_n 0, 1) := by decide +kernel
theorem dX11_way_32 : decode cX11_way 32 = .ok (.getfield 54, 3) := by decide +kernel
theorem dX11_way_35 : decode cX11_way 35 = .ok (.getfield 132, 3) := by decide +kernel
theorem dX11_way_38 : decode cX11_way 38 = .ok (.iload_n 1, 1) := by decide +kernel
theorem dX11_way_39 : decode cX11_way 39 = .ok (.iaload, 1) := by decide +kernel
theorem dX11_way_40 : decode cX11_way 40 = .ok (.goto 12, 3) := by decide +kernel
theorem dX11_way_43 : decode cX11_way 43 = .ok (.aload_n 0, 1) := by decide +kernel
theorem dX11_way_44 : decode cX11_way 44 = .ok (.getfield 54, 3) := by decide +kernel
theorem dX11_way_47 : decode cX11_way 47 = .ok (.getfield 136, 3) := by decide +kernel
theorem dX11_way_50 : decode cX11_way 50 = .ok (.iload_n 1, 1) := by decide +kernel
theorem dX11_way_51 : decode cX11_way 51 = .ok (.iaload, 1) := by decide +kernel
theorem dX11_way_52 : decode cX11_way 52 = .ok (.ireturn, 1) := by decide +kernel
theorem dX11_at_0 : decode cX11_at 0 = .ok (.iload_n 1, 1) := by decide +kernel
theorem dX11_at_1 : decode cX11_at 1 = .ok (.iconst 0, 1) := by decide +kernel
theorem dX11_at_2 : decode cX11_at 2 = .ok (.sipush 255, 3) := by decide +kernel
theorem dX11_at_5 : decode cX11_at 5 = .ok (.invokestatic 86, 3) := by decide +kernel
theorem dX11_at_8 : decode cX11_at 8 = .ok (.iload_n 3, 1) := by decide +kernel
theorem dX11_at_9 : decode cX11_at 9 = .ok (.iconst 0, 1) := by decide +kernel
theorem dX11_at_10 : decode cX11_at 10 = .ok (.iconst 1, 1) := by decide +kernel
theorem dX11_at_11 : decode cX11_at 11 = .ok (.invokestatic 86, 3) := by decide +kernel
theorem dX11_at_14 : decode cX11_at 14 = .ok (.iload 4, 2) := by decide +kernel
theorem dX11_at_16 : decode cX11_at 16 = .ok (.iconst 0, 1) := by decide +kernel
theorem dX11_at_17 : decode cX11_at 17 = .ok (.iconst 1, 1) := by decide +kernel
theorem dX11_at_18 : decode cX11_at 18 = .ok (.invokestatic 86, 3) := by decide +kernel
theorem dX11_at_21 : decode cX11_at 21 = .ok (.iload_n 2, 1) := by decide +kernel
theorem dX11_at_22 : decode cX11_at 22 = .ok (.aload_n 0, 1) := by decide +kernel
theorem dX11_at_23 : decode cX11_at 23 = .ok (.getfield 54, 3) := by decide +kernel
theorem dX11_at_26 : decode cX11_at 26 = .ok (.getfield 103, 3) := by decide +kernel
theorem dX11_at_29 : decode cX11_at 29 = .ok (.invokestatic 124, 3) := by decide +kernel
theorem dX11_at_32 : decode cX11_at 32 = .ok (.invokestatic 128, 3) := by decide +kernel
theorem dX11_at_35 : decode cX11_at 35 = .ok (.aload_n 0, 1) := by decide +kernel
theorem dX11_at_36 : decode cX11_at 36 = .ok (.getfield 54, 3) := by decide +kernel
theorem dX11_at_39 : decode cX11_at 39 = .ok (.iload_n 1, 1) := by decide +kernel
theorem dX11_at_40 : decode cX11_at 40 = .ok (.iconst 0, 1) := by decide +kernel
theorem dX11_at_41 : decode cX11_at 41 = .ok (.invokevirtual 139, 3) := by decide +kernel
theorem dX11_at_44 : decode cX11_at 44 = .ok (.iconst 3, 1) := by decide +kernel
theorem dX11_at_45 : decode cX11_at 45 = .ok (.if_icmp .eq 7, 3) := by decide +kernel
theorem dX11_at_48 : decode cX11_at 48 = .ok (.iconst 1, 1) := by decide +kernel
theorem dX11_at_49 : decode cX11_at 49 = .ok (.goto 4, 3) := by decide +kernel
theorem dX11_at_52 : decode cX11_at 52 = .ok (.iconst 0, 1) := by decide +kernel
theorem dX11_at_53 : decode cX11_at 53 = .ok (.invokestatic 128, 3) := by decide +kernel
theorem dX11_at_56 : decode cX11_at 56 = .ok (.aload_n 0, 1) := by decide +kernel
theorem dX11_at_57 : decode cX11_at 57 = .ok (.getfield 54, 3) := by decide +kernel
theorem dX11_at_60 : decode cX11_at 60 = .ok (.getfield 143, 3) := by decide +kernel
theorem dX11_at_63 : decode cX11_at 63 = .ok (.iload_n 2, 1) := by decide +kernel
theorem dX11_at_64 : decode cX11_at 64 = .ok (.aaload, 1) := by decide +kernel
theorem dX11_at_65 : decode cX11_at 65 = .ok (.getfield 147, 3) := by decide +kernel
theorem dX11_at_68 : decode cX11_at 68 = .ok (.iload_n 3, 1) := by decide +kernel
theorem dX11_at_69 : decode cX11_at 69 = .ok (.iload 4, 2) := by decide +kernel
theorem dX11_at_71 : decode cX11_at 71 = .ok (.invokestatic 153, 3) := by decide +kernel
theorem dX11_at_74 : decode cX11_at 74 = .ok (.lreturn, 1) := by decide +kernel
theorem dX11_step_0 : decode cX11_step 0 = .ok (.iload_n 1, 1) := by decide +kernel
theorem dX11_step_1 : decode cX11_step 1 = .ok (.iconst 0, 1) := by decide +kernel
theorem dX11_step_2 : decode cX11_step 2 = .ok (.sipush 255, 3) := by decide +kernel
theorem dX11_step_5 : decode cX11_step 5 = .ok (.invokestatic 86, 3) := by decide +kernel
theorem dX11_step_8 : decode cX11_step 8 = .ok (.iload_n 2, 1) := by decide +kernel
theorem dX11_step_9 : decode cX11_step 9 = .ok (.iconst 0, 1) := by decide +kernel
theorem dX11_step_10 : decode cX11_step 10 = .ok (.iconst 3, 1) := by decide +kernel
theorem dX11_step_11 : decode cX11_step 11 = .ok (.invokestatic 86, 3) := by decide +kernel
theorem dX11_step_14 : decode cX11_step 14 = .ok (.iload_n 3, 1) := by decide +kernel
theorem dX11_step_15 : decode cX11_step 15 = .ok (.sipush (-1023), 3) := by decide +kernel
theorem dX11_step_18 : decode cX11_step 18 = .ok (.sipush 1023, 3) := by decide +kernel
theorem dX11_step_21 : decode cX11_step 21 = .ok (.invokestatic 86, 3) := by decide +kernel
theorem dX11_step_24 : decode cX11_step 24 = .ok (.aload_n 0, 1) := by decide +kernel
theorem dX11_step_25 : decode cX11_step 25 = .ok (.iload_n 1, 1) := by decide +kernel
theorem dX11_step_26 : decode cX11_step 26 = .ok (.invokevirtual 157, 3) := by decide +kernel
theorem dX11_step_29 : decode cX11_step 29 = .ok (.aload_n 0, 1) := by decide +kernel
theorem dX11_step_30 : decode cX11_step 30 = .ok (.getfield 54, 3) := by decide +kernel
theorem dX11_step_33 : decode cX11_step 33 = .ok (.iload_n 1, 1) := by decide +kernel
theorem dX11_step_34 : decode cX11_step 34 = .ok (.iload_n 2, 1) := by decide +kernel
theorem dX11_step_35 : decode cX11_step 35 = .ok (.iload_n 3, 1) := by decide +kernel
theorem dX11_step_36 : decode cX11_step 36 = .ok (.invokevirtual 160, 3) := by decide +kernel
theorem dX11_step_39 : decode cX11_step 39 = .ok (.aload_n 0, 1) := by decide +kernel
theorem dX11_step_40 : decode cX11_step 40 = .ok (.getfield 54, 3) := by decide +kernel
theorem dX11_step_43 : decode cX11_step 43 = .ok (.getfield 163, 3) := by decide +kernel
theorem dX11_step_46 : decode cX11_step 46 = .ok (.iload_n 2, 1) := by decide +kernel
theorem dX11_step_47 : decode cX11_step 47 = .ok (.iaload, 1) := by decide +kernel
theorem dX11_step_48 : decode cX11_step 48 = .ok (.ireturn, 1) := by decide +kernel
theorem dX11_range_0 : decode cX11_range 0 = .ok (.iload_n 1, 1) := by decide +kernel
theorem dX11_range_1 : decode cX11_range 1 = .ok (.iconst 0, 1) := by decide +kernel
theorem dX11_range_2 : decode cX11_range 2 = .ok (.sipush 255, 3) := by decide +kernel
theorem dX11_range_5 : decode cX11_range 5 = .ok (.invokestatic 86, 3) := by decide +kernel
theorem dX11_range_8 : decode cX11_range 8 = .ok (.iload_n 2, 1) := by decide +kernel
theorem dX11_range_9 : decode cX11_range 9 = .ok (.iconst 0, 1) := by decide +kernel
theorem dX11_range_10 : decode cX11_range 10 = .ok (.iconst 3, 1) := by decide +kernel
theorem dX11_range_11 : decode cX11_range 11 = .ok (.invokestatic 86, 3) := by decide +kernel
theorem dX11_range_14 : decode cX11_range 14 = .ok (.iload_n 3, 1) := by decide +kernel
theorem dX11_range_15 : decode cX11_range 15 = .ok (.iconst 0, 1) := by decide +kernel
theorem dX11_range_16 : decode cX11_range 16 = .ok (.iconst 2, 1) := by decide +kernel
theorem dX11_range_17 : decode cX11_range 17 = .ok (.invokestatic 86, 3) := by decide +kernel
theorem dX11_range_20 : decode cX11_range 20 = .ok (.aload_n 0, 1) := by decide +kernel
theorem dX11_range_21 : decode cX11_range 21 = .ok (.getfield 54, 3) := by decide +kernel
theorem dX11_range_24 : decode cX11_range 24 = .ok (.iload_n 1, 1) := by decide +kernel
theorem dX11_range_25 : decode cX11_range 25 = .ok (.iload_n 2, 1) := by decide +kernel
theorem dX11_range_26 : decode cX11_range 26 = .ok (.iload_n 3, 1) := by decide +kernel
theorem dX11_range_27 : decode cX11_range 27 = .ok (.invokevirtual 166, 3) := by decide +kernel
theorem dX11_range_30 : decode cX11_range 30 = .ok (.ireturn, 1) := by decide +kernel
theorem dX11_spread_0 : decode cX11_spread 0 = .ok (.iload_n 1, 1) := by decide +kernel
theorem dX11_spread_1 : decode cX11_spread 1 = .ok (.iconst 0, 1) := by decide +kernel
theorem dX11_spread_2 : decode cX11_spread 2 = .ok (.sipush 255, 3) := by decide +kernel
theorem dX11_spread_5 : decode cX11_spread 5 = .ok (.invokestatic 86, 3) := by decide +kernel
theorem dX11_spread_8 : decode cX11_spread 8 = .ok (.iload_n 2, 1) := by decide +kernel
theorem dX11_spread_9 : decode cX11_spread 9 = .ok (.iconst 0, 1) := by decide +kernel
theorem dX11_spread_10 : decode cX11_spread 10 = .ok (.iconst 3, 1) := by decide +kernel
theorem dX11_spread_11 : decode cX11_spread 11 = .ok (.invokestatic 86, 3) := by decide +kernel
theorem dX11_spread_14 : decode cX11_spread 14 = .ok (.iload 4, 2) := by decide +kernel
theorem dX11_spread_16 : decode cX11_spread 16 = .ok (.iconst 0, 1) := by decide +kernel
theorem dX11_spread_17 : decode cX11_spread 17 = .ok (.iconst 1, 1) := by decide +kernel
theorem dX11_spread_18 : decode cX11_spread 18 = .ok (.invokestatic 86, 3) := by decide +kernel
theorem dX11_spread_21 : decode cX11_spread 21 = .ok (.iload 5, 2) := by decide +kernel
theorem dX11_spread_23 : decode cX11_spread 23 = .ok (.iconst 0, 1) := by decide +kernel
theorem dX11_spread_24 : decode cX11_spread 24 = .ok (.iconst 1, 1) := by decide +kernel
theorem dX11_spread_25 : decode cX11_spread 25 = .ok (.invokestatic 86, 3) := by decide +kernel
theorem dX11_spread_28 : decode cX11_spread 28 = .ok (.iload_n 3, 1) := by decide +kernel
theorem dX11_spread_29 : decode cX11_spread 29 = .ok (.aload_n 0, 1) := by decide +kernel
theorem dX11_spread_30 : decode cX11_spread 30 = .ok (.getfield 54, 3) := by decide +kernel
theorem dX11_spread_33 : decode cX11_spread 33 = .ok (.getfield 103, 3) := by decide +kernel
theorem dX11_spread_36 : decode cX11_spread 36 = .ok (.invokestatic 124, 3) := by decide +kernel
theorem dX11_spread_39 : decode cX11_spread 39 = .ok (.invokestatic 128, 3) := by decide +kernel
theorem dX11_spread_42 : decode cX11_spread 42 = .ok (.aload_n 0, 1) := by decide +kernel
theorem dX11_spread_43 : decode cX11_spread 43 = .ok (.getfield 54, 3) := by decide +kernel
theorem dX11_spread_46 : decode cX11_spread 46 = .ok (.iload_n 1, 1) := by decide +kernel
theorem dX11_spread_47 : decode cX11_spread 47 = .ok (.iload_n 2, 1) := by decide +kernel
theorem dX11_spread_48 : decode cX11_spread 48 = .ok (.iload_n 3, 1) := by decide +kernel
theorem dX11_spread_49 : decode cX11_spread 49 = .ok (.iload 4, 2) := by decide +kernel
theorem dX11_spread_51 : decode cX11_spread 51 = .ok (.invokevirtual 170, 3) := by decide +kernel
theorem dX11_spread_54 : decode cX11_spread 54 = .ok (.aload_n 0, 1) := by decide +kernel
theorem dX11_spread_55 : decode cX11_spread 55 = .ok (.getfield 54, 3) := by decide +kernel
theorem dX11_spread_58 : decode cX11_spread 58 = .ok (.getfield 174, 3) := by decide +kernel
theorem dX11_spread_61 : decode cX11_spread 61 = .ok (.getfield 178, 3) := by decide +kernel
theorem dX11_spread_64 : decode cX11_spread 64 = .ok (.ifCond .ne 7, 3) := by decide +kernel
theorem dX11_spread_67 : decode cX11_spread 67 = .ok (.iconst 1, 1) := by decide +kernel
theorem dX11_spread_68 : decode cX11_spread 68 = .ok (.goto 4, 3) := by decide +kernel
theorem dX11_spread_71 : decode cX11_spread 71 = .ok (.iconst 0, 1) := by decide +kernel
theorem dX11_spread_72 : decode cX11_spread 72 = .ok (.invokestatic 128, 3) := by decide +kernel
theorem dX11_spread_75 : decode cX11_spread 75 = .ok (.aload_n 0, 1) := by decide +kernel
theorem dX11_spread_76 : decode cX11_spread 76 = .ok (.getfield 54, 3) := by decide +kernel
theorem dX11_spread_79 : decode cX11_spread 79 = .ok (.getfield 174, 3) := by decide +kernel
theorem dX11_spread_82 : decode cX11_spread 82 = .ok (.iload 5, 2) := by decide +kernel
theorem dX11_spread_84 : decode cX11_spread 84 = .ok (.invokevirtual 184, 3) := by decide +kernel
theorem dX11_spread_87 : decode cX11_spread 87 = .ok (.lreturn, 1) := by decide +kernel
theorem dX11_least_0 : decode cX11_least 0 = .ok (.iload_n 1, 1) := by decide +kernel
theorem dX11_least_1 : decode cX11_least 1 = .ok (.iconst 0, 1) := by decide +kernel
theorem dX11_least_2 : decode cX11_least 2 = .ok (.sipush 255, 3) := by decide +kernel
theorem dX11_least_5 : decode cX11_least 5 = .ok (.invokestatic 86, 3) := by decide +kernel
theorem dX11_least_8 : decode cX11_least 8 = .ok (.iload_n 2, 1) := by decide +kernel
theorem dX11_least_9 : decode cX11_least 9 = .ok (.iconst 0, 1) := by decide +kernel
theorem dX11_least_10 : decode cX11_least 10 = .ok (.iconst 3, 1) := by decide +kernel
theorem dX11_least_11 : decode cX11_least 11 = .ok (.invokestatic 86, 3) := by decide +kernel
theorem dX11_least_14 : decode cX11_least 14 = .ok (.iload 5, 2) := by decide +kernel
theorem dX11_least_16 : decode cX11_least 16 = .ok (.iconst 0, 1) := by decide +kernel
theorem dX11_least_17 : decode cX11_least 17 = .ok (.iconst 1, 1) := by decide +kernel
theorem dX11_least_18 : decode cX11_least 18 = .ok (.invokestatic 86, 3) := by decide +kernel
theorem dX11_least_21 : decode cX11_least 21 = .ok (.iload_n 3, 1) := by decide +kernel
theorem dX11_least_22 : decode cX11_least 22 = .ok (.aload_n 0, 1) := by decide +kernel
theorem dX11_least_23 : decode cX11_least 23 = .ok (.getfield 54, 3) := by decide +kernel
theorem dX11_least_26 : decode cX11_least 26 = .ok (.getfield 103, 3) := by decide +kernel
theorem dX11_least_29 : decode cX11_least 29 = .ok (.invokestatic 124, 3) := by decide +kernel
theorem dX11_least_32 : decode cX11_least 32 = .ok (.ifCond .eq 22, 3) := by decide +kernel
theorem dX11_least_35 : decode cX11_least 35 = .ok (.iload 4, 2) := by decide +kernel
theorem dX11_least_37 : decode cX11_least 37 = .ok (.aload_n 0, 1) := by decide +kernel
theorem dX11_least_38 : decode cX11_least 38 = .ok (.getfield 54, 3) := by decide +kernel
theorem dX11_least_41 : decode cX11_least 41 = .ok (.getfield 103, 3) := by decide +kernel
theorem dX11_least_44 : decode cX11_least 44 = .ok (.invokestatic 124, 3) := by decide +kernel
theorem dX11_least_47 : decode cX11_least 47 = .ok (.ifCond .eq 7, 3) := by decide +kernel
theorem dX11_least_50 : decode cX11_least 50 = .ok (.iconst 1, 1) := by decide +kernel
theorem dX11_least_51 : decode cX11_least 51 = .ok (.goto 4, 3) := by decide +kernel
theorem dX11_least_54 : decode cX11_least 54 = .ok (.iconst 0, 1) := by decide +kernel
theorem dX11_least_55 : decode cX11_least 55 = .ok (.invokestatic 128, 3) := by decide +kernel
theorem dX11_least_58 : decode cX11_least 58 = .ok (.aload_n 0, 1) := by decide +kernel
theorem dX11_least_59 : decode cX11_least 59 = .ok (.getfield 54, 3) := by decide +kernel
theorem dX11_least_62 : decode cX11_least 62 = .ok (.iload_n 1, 1) := by decide +kernel
theorem dX11_least_63 : decode cX11_least 63 = .ok (.iload_n 2, 1) := by decide +kernel
theorem dX11_least_64 : decode cX11_least 64 = .ok (.iload_n 3, 1) := by decide +kernel
theorem dX11_least_65 : decode cX11_least 65 = .ok (.iload 4, 2) := by decide +kernel
theorem dX11_least_67 : decode cX11_least 67 = .ok (.invokevirtual 188, 3) := by decide +kernel
theorem dX11_least_70 : decode cX11_least 70 = .ok (.aload_n 0, 1) := by decide +kernel
theorem dX11_least_71 : decode cX11_least 71 = .ok (.getfield 54, 3) := by decide +kernel
theorem dX11_least_74 : decode cX11_least 74 = .ok (.getfield 174, 3) := by decide +kernel
theorem dX11_least_77 : decode cX11_least 77 = .ok (.getfield 178, 3) := by decide +kernel
theorem dX11_least_80 : decode cX11_least 80 = .ok (.ifCond .ne 7, 3) := by decide +kernel
theorem dX11_least_83 : decode cX11_least 83 = .ok (.iconst 1, 1) := by decide +kernel
theorem dX11_least_84 : decode cX11_least 84 = .ok (.goto 4, 3) := by decide +kernel
theorem dX11_least_87 : decode cX11_least 87 = .ok (.iconst 0, 1) := by decide +kernel
theorem dX11_least_88 : decode cX11_least 88 = .ok (.invokestatic 128, 3) := by decide +kernel
theorem dX11_least_91 : decode cX11_least 91 = .ok (.aload_n 0, 1) := by decide +kernel
theorem dX11_least_92 : decode cX11_least 92 = .ok (.getfield 54, 3) := by decide +kernel
theorem dX11_least_95 : decode cX11_least 95 = .ok (.getfield 174, 3) := by decide +kernel
theorem dX11_least_98 : decode cX11_least 98 = .ok (.iload 5, 2) := by decide +kernel
theorem dX11_least_100 : decode cX11_least 100 = .ok (.invokevirtual 184, 3) := by decide +kernel
theorem dX11_least_103 : decode cX11_least 103 = .ok (.lreturn, 1) := by decide +kernel
theorem dX11_speed_0 : decode cX11_speed 0 = .ok (.iload_n 1, 1) := by decide +kernel
theorem dX11_speed_1 : decode cX11_speed 1 = .ok (.iconst 0, 1) := by decide +kernel
theorem dX11_speed_2 : decode cX11_speed 2 = .ok (.sipush 255, 3) := by decide +kernel
theorem dX11_speed_5 : decode cX11_speed 5 = .ok (.invokestatic 86, 3) := by decide +kernel
theorem dX11_speed_8 : decode cX11_speed 8 = .ok (.iload_n 2, 1) := by decide +kernel
theorem dX11_speed_9 : decode cX11_speed 9 = .ok (.iconst 0, 1) := by decide +kernel
theorem dX11_speed_10 : decode cX11_speed 10 = .ok (.iconst 3, 1) := by decide +kernel
theorem dX11_speed_11 : decode cX11_speed 11 = .ok (.invokestatic 86, 3) := by decide +kernel
theorem dX11_speed_14 : decode cX11_speed 14 = .ok (.iload 4, 2) := by decide +kernel
theorem dX11_speed_16 : decode cX11_speed 16 = .ok (.iconst 0, 1) := by decide +kernel
theorem dX11_speed_17 : decode cX11_speed 17 = .ok (.iconst 1, 1) := by decide +kernel
theorem dX11_speed_18 : decode cX11_speed 18 = .ok (.invokestatic 86, 3) := by decide +kernel
theorem dX11_speed_21 : decode cX11_speed 21 = .ok (.iload 5, 2) := by decide +kernel
theorem dX11_speed_23 : decode cX11_speed 23 = .ok (.iconst 0, 1) := by decide +kernel
theorem dX11_speed_24 : decode cX11_speed 24 = .ok (.iconst 1, 1) := by decide +kernel
theorem dX11_speed_25 : decode cX11_speed 25 = .ok (.invokestatic 86, 3) := by decide +kernel
theorem dX11_speed_28 : decode cX11_speed 28 = .ok (.iload_n 3, 1) := by decide +kernel
theorem dX11_speed_29 : decode cX11_speed 29 = .ok (.aload_n 0, 1) := by decide +kernel
theorem dX11_speed_30 : decode cX11_speed 30 = .ok (.getfield 54, 3) := by decide +kernel
theorem dX11_speed_33 : decode cX11_speed 33 = .ok (.getfield 103, 3) := by decide +kernel
theorem dX11_speed_36 : decode cX11_speed 36 = .ok (.invokestatic 124, 3) := by decide +kernel
theorem dX11_speed_39 : decode cX11_speed 39 = .ok (.invokestatic 128, 3) := by decide +kernel
theorem dX11_speed_42 : decode cX11_speed 42 = .ok (.aload_n 0, 1) := by decide +kernel
theorem dX11_speed_43 : decode cX11_speed 43 = .ok (.iload_n 1, 1) := by decide +kernel
theorem dX11_speed_44 : decode cX11_speed 44 = .ok (.invokevirtual 157, 3) := by decide +kernel
theorem dX11_speed_47 : decode cX11_speed 47 = .ok (.aload_n 0, 1) := by decide +kernel
theorem dX11_speed_48 : decode cX11_speed 48 = .ok (.getfield 54, 3) := by decide +kernel
theorem dX11_speed_51 : decode cX11_speed 51 = .ok (.iload_n 2, 1) := by decide +kernel
theorem dX11_speed_52 : decode cX11_speed 52 = .ok (.invokevirtual 191, 3) := by decide +kernel
theorem dX11_speed_55 : decode cX11_speed 55 = .ok (.aload_n 0, 1) := by decide +kernel
theorem dX11_speed_56 : decode cX11_speed 56 = .ok (.getfield 54, 3) := by decide +kernel
theorem dX11_speed_59 : decode cX11_speed 59 = .ok (.getfield 143, 3) := by decide +kernel
theorem dX11_speed_62 : decode cX11_speed 62 = .ok (.iload_n 3, 1) := by decide +kernel
theorem dX11_speed_63 : decode cX11_speed 63 = .ok (.aaload, 1) := by decide +kernel
theorem dX11_speed_64 : decode cX11_speed 64 = .ok (.getfield 194, 3) := by decide +kernel
theorem dX11_speed_67 : decode cX11_speed 67 = .ok (.iload 4, 2) := by decide +kernel
theorem dX11_speed_69 : decode cX11_speed 69 = .ok (.iload 5, 2) := by decide +kernel
theorem dX11_speed_71 : decode cX11_speed 71 = .ok (.invokestatic 153, 3) := by decide +kernel
theorem dX11_speed_74 : decode cX11_speed 74 = .ok (.lreturn, 1) := by decide +kernel
theorem dX11_pole_0 : decode cX11_pole 0 = .ok (.iload_n 1, 1) := by decide +kernel
theorem dX11_pole_1 : decode cX11_pole 1 = .ok (.iconst 0, 1) := by decide +kernel
theorem dX11_pole_2 : decode cX11_pole 2 = .ok (.sipush 255, 3) := by decide +kernel
theorem dX11_pole_5 : decode cX11_pole 5 = .ok (.invokestatic 86, 3) := by decide +kernel
theorem dX11_pole_8 : decode cX11_pole 8 = .ok (.iload_n 2, 1) := by decide +kernel
theorem dX11_pole_9 : decode cX11_pole 9 = .ok (.iconst 0, 1) := by decide +kernel
theorem dX11_pole_10 : decode cX11_pole 10 = .ok (.iconst 3, 1) := by decide +kernel
theorem dX11_pole_11 : decode cX11_pole 11 = .ok (.invokestatic 86, 3) := by decide +kernel
theorem dX11_pole_14 : decode cX11_pole 14 = .ok (.iload 5, 2) := by decide +kernel
theorem dX11_pole_16 : decode cX11_pole 16 = .ok (.iconst 0, 1) := by decide +kernel
theorem dX11_pole_17 : decode cX11_pole 17 = .ok (.iconst 1, 1) := by decide +kernel
theorem dX11_pole_18 : decode cX11_pole 18 = .ok (.invokestatic 86, 3) := by decide +kernel
theorem dX11_pole_21 : decode cX11_pole 21 = .ok (.iload 6, 2) := by decide +kernel
theorem dX11_pole_23 : decode cX11_pole 23 = .ok (.iconst 0, 1) := by decide +kernel
theorem dX11_pole_24 : decode cX11_pole 24 = .ok (.iconst 1, 1) := by decide +kernel
theorem dX11_pole_25 : decode cX11_pole 25 = .ok (.invokestatic 86, 3) := by decide +kernel
theorem dX11_pole_28 : decode cX11_pole 28 = .ok (.iload_n 3, 1) := by decide +kernel
theorem dX11_pole_29 : decode cX11_pole 29 = .ok (.aload_n 0, 1) := by decide +kernel
theorem dX11_pole_30 : decode cX11_pole 30 = .ok (.getfield 54, 3) := by decide +kernel
theorem dX11_pole_33 : decode cX11_pole 33 = .ok (.getfield 103, 3) := by decide +kernel
theorem dX11_pole_36 : decode cX11_pole 36 = .ok (.invokestatic 124, 3) := by decide +kernel
theorem dX11_pole_39 : decode cX11_pole 39 = .ok (.ifCond .eq 22, 3) := by decide +kernel
theorem dX11_pole_42 : decode cX11_pole 42 = .ok (.iload 4, 2) := by decide +kernel
theorem dX11_pole_44 : decode cX11_pole 44 = .ok (.aload_n 0, 1) := by decide +kernel
theorem dX11_pole_45 : decode cX11_pole 45 = .ok (.getfield 54, 3) := by decide +kernel
theorem dX11_pole_48 : decode cX11_pole 48 = .ok (.getfield 103, 3) := by decide +kernel
theorem dX11_pole_51 : decode cX11_pole 51 = .ok (.invokestatic 124, 3) := by decide +kernel
theorem dX11_pole_54 : decode cX11_pole 54 = .ok (.ifCond .eq 7, 3) := by decide +kernel
theorem dX11_pole_57 : decode cX11_pole 57 = .ok (.iconst 1, 1) := by decide +kernel
theorem dX11_pole_58 : decode cX11_pole 58 = .ok (.goto 4, 3) := by decide +kernel
theorem dX11_pole_61 : decode cX11_pole 61 = .ok (.iconst 0, 1) := by decide +kernel
theorem dX11_pole_62 : decode cX11_pole 62 = .ok (.invokestatic 128, 3) := by decide +kernel
theorem dX11_pole_65 : decode cX11_pole 65 = .ok (.aload_n 0, 1) := by decide +kernel
theorem dX11_pole_66 : decode cX11_pole 66 = .ok (.iload_n 1, 1) := by decide +kernel
theorem dX11_pole_67 : decode cX11_pole 67 = .ok (.invokevirtual 157, 3) := by decide +kernel
theorem dX11_pole_70 : decode cX11_pole 70 = .ok (.aload_n 0, 1) := by decide +kernel
theorem dX11_pole_71 : decode cX11_pole 71 = .ok (.getfield 54, 3) := by decide +kernel
theorem dX11_pole_74 : decode cX11_pole 74 = .ok (.iload_n 2, 1) := by decide +kernel
theorem dX11_pole_75 : decode cX11_pole 75 = .ok (.invokevirtual 191, 3) := by decide +kernel
theorem dX11_pole_78 : decode cX11_pole 78 = .ok (.aload_n 0, 1) := by decide +kernel
theorem dX11_pole_79 : decode cX11_pole 79 = .ok (.getfield 54, 3) := by decide +kernel
theorem dX11_pole_82 : decode cX11_pole 82 = .ok (.iload_n 3, 1) := by decide +kernel
theorem dX11_pole_83 : decode cX11_pole 83 = .ok (.iload 4, 2) := by decide +kernel
theorem dX11_pole_85 : decode cX11_pole 85 = .ok (.invokevirtual 197, 3) := by decide +kernel
theorem dX11_pole_88 : decode cX11_pole 88 = .ok (.iload 5, 2) := by decide +kernel
theorem dX11_pole_90 : decode cX11_pole 90 = .ok (.iload 6, 2) := by decide +kernel
theorem dX11_pole_92 : decode cX11_pole 92 = .ok (.invokestatic 153, 3) := by decide +kernel
theorem dX11_pole_95 : decode cX11_pole 95 = .ok (.lreturn, 1) := by decide +kernel
theorem dX11_load_0 : decode cX11_load 0 = .ok (.iload_n 2, 1) := by decide +kernel
theorem dX11_load_1 : decode cX11_load 1 = .ok (.sipush (-1000), 3) := by decide +kernel
theorem dX11_load_4 : decode cX11_load 4 = .ok (.sipush 1000, 3) := by decide +kernel
theorem dX11_load_7 : decode cX11_load 7 = .ok (.invokestatic 86, 3) := by decide +kernel
theorem dX11_load_10 : decode cX11_load 10 = .ok (.iload_n 3, 1) := by decide +kernel
theorem dX11_load_11 : decode cX11_load 11 = .ok (.sipush (-1000), 3) := by decide +kernel
theorem dX11_load_14 : decode cX11_load 14 = .ok (.sipush 1000, 3) := by decide +kernel
theorem dX11_load_17 : decode cX11_load 17 = .ok (.invokestatic 86, 3) := by decide +kernel
theorem dX11_load_20 : decode cX11_load 20 = .ok (.iload_n 1, 1) := by decide +kernel
theorem dX11_load_21 : decode cX11_load 21 = .ok (.aload_n 0, 1) := by decide +kernel
theorem dX11_load_22 : decode cX11_load 22 = .ok (.getfield 54, 3) := by decide +kernel
theorem dX11_load_25 : decode cX11_load 25 = .ok (.getfield 103, 3) := by decide +kernel
theorem dX11_load_28 : decode cX11_load 28 = .ok (.invokestatic 124, 3) := by decide +kernel
theorem dX11_load_31 : decode cX11_load 31 = .ok (.invokestatic 128, 3) := by decide +kernel
theorem dX11_load_34 : decode cX11_load 34 = .ok (.aload_n 0, 1) := by decide +kernel
theorem dX11_load_35 : decode cX11_load 35 = .ok (.getfield 54, 3) := by decide +kernel
theorem dX11_load_38 : decode cX11_load 38 = .ok (.getfield 143, 3) := by decide +kernel
theorem dX11_load_41 : decode cX11_load 41 = .ok (.iload_n 1, 1) := by decide +kernel
theorem dX11_load_42 : decode cX11_load 42 = .ok (.aaload, 1) := by decide +kernel
theorem dX11_load_43 : decode cX11_load 43 = .ok (.iload_n 2, 1) := by decide +kernel
theorem dX11_load_44 : decode cX11_load 44 = .ok (.putfield 201, 3) := by decide +kernel
theorem dX11_load_47 : decode cX11_load 47 = .ok (.aload_n 0, 1) := by decide +kernel
theorem dX11_load_48 : decode cX11_load 48 = .ok (.getfield 54, 3) := by decide +kernel
theorem dX11_load_51 : decode cX11_load 51 = .ok (.getfield 143, 3) := by decide +kernel
theorem dX11_load_54 : decode cX11_load 54 = .ok (.iload_n 1, 1) := by decide +kernel
theorem dX11_load_55 : decode cX11_load 55 = .ok (.aaload, 1) := by decide +kernel
theorem dX11_load_56 : decode cX11_load 56 = .ok (.iload_n 3, 1) := by decide +kernel
theorem dX11_load_57 : decode cX11_load 57 = .ok (.putfield 204, 3) := by decide +kernel
theorem dX11_load_60 : decode cX11_load 60 = .ok (.return_, 1) := by decide +kernel
theorem dX11_mass_0 : decode cX11_mass 0 = .ok (.iload_n 2, 1) := by decide +kernel
theorem dX11_mass_1 : decode cX11_mass 1 = .ok (.iconst 0, 1) := by decide +kernel
theorem dX11_mass_2 : decode cX11_mass 2 = .ok (.sipush 1000, 3) := by decide +kernel
theorem dX11_mass_5 : decode cX11_mass 5 = .ok (.invokestatic 86, 3) := by decide +kernel
theorem dX11_mass_8 : decode cX11_mass 8 = .ok (.iload_n 1, 1) := by decide +kernel
theorem dX11_mass_9 : decode cX11_mass 9 = .ok (.aload_n 0, 1) := by decide +kernel
theorem dX11_mass_10 : decode cX11_mass 10 = .ok (.getfield 54, 3) := by decide +kernel
theorem dX11_mass_13 : decode cX11_mass 13 = .ok (.getfield 103, 3) := by decide +kernel
theorem dX11_mass_16 : decode cX11_mass 16 = .ok (.invokestatic 124, 3) := by decide +kernel
theorem dX11_mass_19 : decode cX11_mass 19 = .ok (.invokestatic 128, 3) := by decide +kernel
theorem dX11_mass_22 : decode cX11_mass 22 = .ok (.aload_n 0, 1) := by decide +kernel
theorem dX11_mass_23 : decode cX11_mass 23 = .ok (.getfield 54, 3) := by decide +kernel
theorem dX11_mass_26 : decode cX11_mass 26 = .ok (.getfield 143, 3) := by decide +kernel
theorem dX11_mass_29 : decode cX11_mass 29 = .ok (.iload_n 1, 1) := by decide +kernel
theorem dX11_mass_30 : decode cX11_mass 30 = .ok (.aaload, 1) := by decide +kernel
theorem dX11_mass_31 : decode cX11_mass 31 = .ok (.iload_n 2, 1) := by decide +kernel
theorem dX11_mass_32 : decode cX11_mass 32 = .ok (.putfield 207, 3) := by decide +kernel
theorem dX11_mass_35 : decode cX11_mass 35 = .ok (.return_, 1) := by decide +kernel
theorem dX11_moment_0 : decode cX11_moment 0 = .ok (.iload_n 1, 1) := by decide +kernel
theorem dX11_moment_1 : decode cX11_moment 1 = .ok (.iconst 0, 1) := by decide +kernel
theorem dX11_moment_2 : decode cX11_moment 2 = .ok (.sipush 255, 3) := by decide +kernel
theorem dX11_moment_5 : decode cX11_moment 5 = .ok (.invokestatic 86, 3) := by decide +kernel
theorem dX11_moment_8 : decode cX11_moment 8 = .ok (.iload_n 2, 1) := by decide +kernel
theorem dX11_moment_9 : decode cX11_moment 9 = .ok (.iconst 0, 1) := by decide +kernel
theorem dX11_moment_10 : decode cX11_moment 10 = .ok (.iconst 3, 1) := by decide +kernel
theorem dX11_moment_11 : decode cX11_moment 11 = .ok (.invokestatic 86, 3) := by decide +kernel
theorem dX11_moment_14 : decode cX11_moment 14 = .ok (.iload_n 3, 1) := by decide +kernel
theorem dX11_moment_15 : decode cX11_moment 15 = .ok (.iconst 0, 1) := by decide +kernel
theorem dX11_moment_16 : decode cX11_moment 16 = .ok (.iconst 1, 1) := by decide +kernel
theorem dX11_moment_17 : decode cX11_moment 17 = .ok (.invokestatic 86, 3) := by decide +kernel
theorem dX11_moment_20 : decode cX11_moment 20 = .ok (.aload_n 0, 1) := by decide +kernel
theorem dX11_moment_21 : decode cX11_moment 21 = .ok (.iload_n 1, 1) := by decide +kernel
theorem dX11_moment_22 : decode cX11_moment 22 = .ok (.invokevirtual 157, 3) := by decide +kernel
theorem dX11_moment_25 : decode cX11_moment 25 = .ok (.aload_n 0, 1) := by decide +kernel
theorem dX11_moment_26 : decode cX11_moment 26 = .ok (.getfield 54, 3) := by decide +kernel
theorem dX11_moment_29 : decode cX11_moment 29 = .ok (.iload_n 2, 1) := by decide +kernel
theorem dX11_moment_30 : decode cX11_moment 30 = .ok (.invokevirtual 191, 3) := by decide +kernel
theorem dX11_moment_33 : decode cX11_moment 33 = .ok (.aload_n 0, 1) := by decide +kernel
theorem dX11_moment_34 : decode cX11_moment 34 = .ok (.getfield 54, 3) := by decide +kernel
theorem dX11_moment_37 : decode cX11_moment 37 = .ok (.invokevirtual 210, 3) := by decide +kernel
theorem dX11_moment_40 : decode cX11_moment 40 = .ok (.aload_n 0, 1) := by decide +kernel
theorem dX11_moment_41 : decode cX11_moment 41 = .ok (.getfield 54, 3) := by decide +kernel
theorem dX11_moment_44 : decode cX11_moment 44 = .ok (.getfield 174, 3) := by decide +kernel
theorem dX11_moment_47 : decode cX11_moment 47 = .ok (.getfield 178, 3) := by decide +kernel
theorem dX11_moment_50 : decode cX11_moment 50 = .ok (.ifCond .ne 7, 3) := by decide +kernel
theorem dX11_moment_53 : decode cX11_moment 53 = .ok (.iconst 1, 1) := by decide +kernel
theorem dX11_moment_54 : decode cX11_moment 54 = .ok (.goto 4, 3) := by decide +kernel
theorem dX11_moment_57 : decode cX11_moment 57 = .ok (.iconst 0, 1) := by decide +kernel
theorem dX11_moment_58 : decode cX11_moment 58 = .ok (.invokestatic 128, 3) := by decide +kernel
theorem dX11_moment_61 : decode cX11_moment 61 = .ok (.aload_n 0, 1) := by decide +kernel
theorem dX11_moment_62 : decode cX11_moment 62 = .ok (.getfield 54, 3) := by decide +kernel
theorem dX11_moment_65 : decode cX11_moment 65 = .ok (.getfield 174, 3) := by decide +kernel
theorem dX11_moment_68 : decode cX11_moment 68 = .ok (.iload_n 3, 1) := by decide +kernel
theorem dX11_moment_69 : decode cX11_moment 69 = .ok (.invokevirtual 184, 3) := by decide +kernel
theorem dX11_moment_72 : decode cX11_moment 72 = .ok (.lreturn, 1) := by decide +kernel
theorem dX11_middle_0 : decode cX11_middle 0 = .ok (.iload_n 1, 1) := by decide +kernel
theorem dX11_middle_1 : decode cX11_middle 1 = .ok (.iconst 0, 1) := by decide +kernel
theorem dX11_middle_2 : decode cX11_middle 2 = .ok (.sipush 255, 3) := by decide +kernel
theorem dX11_middle_5 : decode cX11_middle 5 = .ok (.invokestatic 86, 3) := by decide +kernel
theorem dX11_middle_8 : decode cX11_middle 8 = .ok (.iload_n 2, 1) := by decide +kernel
theorem dX11_middle_9 : decode cX11_middle 9 = .ok (.iconst 0, 1) := by decide +kernel
theorem dX11_middle_10 : decode cX11_middle 10 = .ok (.iconst 1, 1) := by decide +kernel
theorem dX11_middle_11 : decode cX11_middle 11 = .ok (.invokestatic 86, 3) := by decide +kernel
theorem dX11_middle_14 : decode cX11_middle 14 = .ok (.iload_n 3, 1) := by decide +kernel
theorem dX11_middle_15 : decode cX11_middle 15 = .ok (.iconst 0, 1) := by decide +kernel
theorem dX11_middle_16 : decode cX11_middle 16 = .ok (.iconst 1, 1) := by decide +kernel
theorem dX11_middle_17 : decode cX11_middle 17 = .ok (.invokestatic 86, 3) := by decide +kernel
theorem dX11_middle_20 : decode cX11_middle 20 = .ok (.aload_n 0, 1) := by decide +kernel
theorem dX11_middle_21 : decode cX11_middle 21 = .ok (.getfield 54, 3) := by decide +kernel
theorem dX11_middle_24 : decode cX11_middle 24 = .ok (.invokevirtual 213, 3) := by decide +kernel
theorem dX11_middle_27 : decode cX11_middle 27 = .ok (.ifCond .le 7, 3) := by decide +kernel
theorem dX11_middle_30 : decode cX11_middle 30 = .ok (.iconst 1, 1) := by decide +kernel
theorem dX11_middle_31 : decode cX11_middle 31 = .ok (.goto 4, 3) := by decide +kernel
theorem dX11_middle_34 : decode cX11_middle 34 = .ok (.iconst 0, 1) := by decide +kernel
theorem dX11_middle_35 : decode cX11_middle 35 = .ok (.invokestatic 128, 3) := by decide +kernel
theorem dX11_middle_38 : decode cX11_middle 38 = .ok (.aload_n 0, 1) := by decide +kernel
theorem dX11_middle_39 : decode cX11_middle 39 = .ok (.iload_n 1, 1) := by decide +kernel
theorem dX11_middle_40 : decode cX11_middle 40 = .ok (.invokevirtual 157, 3) := by decide +kernel
theorem dX11_middle_43 : decode cX11_middle 43 = .ok (.aload_n 0, 1) := by decide +kernel
theorem dX11_middle_44 : decode cX11_middle 44 = .ok (.getfield 54, 3) := by decide +kernel
theorem dX11_middle_47 : decode cX11_middle 47 = .ok (.iload_n 2, 1) := by decide +kernel
theorem dX11_middle_48 : decode cX11_middle 48 = .ok (.invokevirtual 217, 3) := by decide +kernel
theorem dX11_middle_51 : decode cX11_middle 51 = .ok (.aload_n 0, 1) := by decide +kernel
theorem dX11_middle_52 : decode cX11_middle 52 = .ok (.getfield 54, 3) := by decide +kernel
theorem dX11_middle_55 : decode cX11_middle 55 = .ok (.getfield 174, 3) := by decide +kernel
theorem dX11_middle_58 : decode cX11_middle 58 = .ok (.getfield 178, 3) := by decide +kernel
theorem dX11_middle_61 : decode cX11_middle 61 = .ok (.ifCond .ne 7, 3) := by decide +kernel
theorem dX11_middle_64 : decode cX11_middle 64 = .ok (.iconst 1, 1) := by decide +kernel
theorem dX11_middle_65 : decode cX11_middle 65 = .ok (.goto 4, 3) := by decide +kernel
theorem dX11_middle_68 : decode cX11_middle 68 = .ok (.iconst 0, 1) := by decide +kernel
theorem dX11_middle_69 : decode cX11_middle 69 = .ok (.invokestatic 128, 3) := by decide +kernel
theorem dX11_middle_72 : decode cX11_middle 72 = .ok (.aload_n 0, 1) := by decide +kernel
theorem dX11_middle_73 : decode cX11_middle 73 = .ok (.getfield 54, 3) := by decide +kernel
theorem dX11_middle_76 : decode cX11_middle 76 = .ok (.getfield 174, 3) := by decide +kernel
theorem dX11_middle_79 : decode cX11_middle 79 = .ok (.iload_n 3, 1) := by decide +kernel
theorem dX11_middle_80 : decode cX11_middle 80 = .ok (.invokevirtual 184, 3) := by decide +kernel
theorem dX11_middle_83 : decode cX11_middle 83 = .ok (.lreturn, 1) := by decide +kernel
theorem dX11_gear_0 : decode cX11_gear 0 = .ok (.iload_n 1, 1) := by decide +kernel
theorem dX11_gear_1 : decode cX11_gear 1 = .ok (.iconst 4, 1) := by decide +kernel
theorem dX11_gear_2 : decode cX11_gear 2 = .ok (.sipush 2000, 3) := by decide +kernel
theorem dX11_gear_5 : decode cX11_gear 5 = .ok (.invokestatic 86, 3) := by decide +kernel
theorem dX11_gear_8 : decode cX11_gear 8 = .ok (.iload_n 2, 1) := by decide +kernel
theorem dX11_gear_9 : decode cX11_gear 9 = .ok (.iconst 0, 1) := by decide +kernel
theorem dX11_gear_10 : decode cX11_gear 10 = .ok (.bipush 11, 2) := by decide +kernel
theorem dX11_gear_12 : decode cX11_gear 12 = .ok (.invokestatic 86, 3) := by decide +kernel
theorem dX11_gear_15 : decode cX11_gear 15 = .ok (.aload_n 0, 1) := by decide +kernel
theorem dX11_gear_16 : decode cX11_gear 16 = .ok (.getfield 19, 3) := by decide +kernel
theorem dX11_gear_19 : decode cX11_gear 19 = .ok (.getfield 220, 3) := by decide +kernel
theorem dX11_gear_22 : decode cX11_gear 22 = .ok (.bipush 24, 2) := by decide +kernel
theorem dX11_gear_24 : decode cX11_gear 24 = .ok (.if_icmp .ge 7, 3) := by decide +kernel
theorem dX11_gear_27 : decode cX11_gear 27 = .ok (.iconst 1, 1) := by decide +kernel
theorem dX11_gear_28 : decode cX11_gear 28 = .ok (.goto 4, 3) := by decide +kernel
theorem dX11_gear_31 : decode cX11_gear 31 = .ok (.iconst 0, 1) := by decide +kernel
theorem dX11_gear_32 : decode cX11_gear 32 = .ok (.invokestatic 223, 3) := by decide +kernel
theorem dX11_gear_35 : decode cX11_gear 35 = .ok (.aload_n 0, 1) := by decide +kernel
theorem dX11_gear_36 : decode cX11_gear 36 = .ok (.getfield 19, 3) := by decide +kernel
theorem dX11_gear_39 : decode cX11_gear 39 = .ok (.iload_n 1, 1) := by decide +kernel
theorem dX11_gear_40 : decode cX11_gear 40 = .ok (.iload_n 2, 1) := by decide +kernel
theorem dX11_gear_41 : decode cX11_gear 41 = .ok (.invokevirtual 226, 3) := by decide +kernel
theorem dX11_gear_44 : decode cX11_gear 44 = .ok (.ireturn, 1) := by decide +kernel
theorem dX11_mesh_0 : decode cX11_mesh 0 = .ok (.iload 4, 2) := by decide +kernel
theorem dX11_mesh_2 : decode cX11_mesh 2 = .ok (.iconst (-1), 1) := by decide +kernel
theorem dX11_mesh_3 : decode cX11_mesh 3 = .ok (.bipush 11, 2) := by decide +kernel
theorem dX11_mesh_5 : decode cX11_mesh 5 = .ok (.invokestatic 86, 3) := by decide +kernel
theorem dX11_mesh_8 : decode cX11_mesh 8 = .ok (.iload_n 1, 1) := by decide +kernel
theorem dX11_mesh_9 : decode cX11_mesh 9 = .ok (.aload_n 0, 1) := by decide +kernel
theorem dX11_mesh_10 : decode cX11_mesh 10 = .ok (.getfield 19, 3) := by decide +kernel
theorem dX11_mesh_13 : decode cX11_mesh 13 = .ok (.getfield 220, 3) := by decide +kernel
theorem dX11_mesh_16 : decode cX11_mesh 16 = .ok (.invokestatic 124, 3) := by decide +kernel
theorem dX11_mesh_19 : decode cX11_mesh 19 = .ok (.ifCond .eq 21, 3) := by decide +kernel
theorem dX11_mesh_22 : decode cX11_mesh 22 = .ok (.iload_n 2, 1) := by decide +kernel
theorem dX11_mesh_23 : decode cX11_mesh 23 = .ok (.aload_n 0, 1) := by decide +kernel
theorem dX11_mesh_24 : decode cX11_mesh 24 = .ok (.getfield 19, 3) := by decide +kernel
theorem dX11_mesh_27 : decode cX11_mesh 27 = .ok (.getfield 220, 3) := by decide +kernel
theorem dX11_mesh_30 : decode cX11_mesh 30 = .ok (.invokestatic 124, 3) := by decide +kernel
theorem dX11_mesh_33 : decode cX11_mesh 33 = .ok (.ifCond .eq 7, 3) := by decide +kernel
theorem dX11_mesh_36 : decode cX11_mesh 36 = .ok (.iconst 1, 1) := by decide +kernel
theorem dX11_mesh_37 : decode cX11_mesh 37 = .ok (.goto 4, 3) := by decide +kernel
theorem dX11_mesh_40 : decode cX11_mesh 40 = .ok (.iconst 0, 1) := by decide +kernel
theorem dX11_mesh_41 : decode cX11_mesh 41 = .ok (.invokestatic 128, 3) := by decide +kernel
theorem dX11_mesh_44 : decode cX11_mesh 44 = .ok (.aload_n 0, 1) := by decide +kernel
theorem dX11_mesh_45 : decode cX11_mesh 45 = .ok (.getfield 19, 3) := by decide +kernel
theorem dX11_mesh_48 : decode cX11_mesh 48 = .ok (.getfield 230, 3) := by decide +kernel
theorem dX11_mesh_51 : decode cX11_mesh 51 = .ok (.iload_n 1, 1) := by decide +kernel
theorem dX11_mesh_52 : decode cX11_mesh 52 = .ok (.iaload, 1) := by decide +kernel
theorem dX11_mesh_53 : decode cX11_mesh 53 = .ok (.aload_n 0, 1) := by decide +kernel
theorem dX11_mesh_54 : decode cX11_mesh 54 = .ok (.getfield 19, 3) := by decide +kernel
theorem dX11_mesh_57 : decode cX11_mesh 57 = .ok (.getfield 230, 3) := by decide +kernel
theorem dX11_mesh_60 : decode cX11_mesh 60 = .ok (.iload_n 2, 1) := by decide +kernel
theorem dX11_mesh_61 : decode cX11_mesh 61 = .ok (.iaload, 1) := by decide +kernel
theorem dX11_mesh_62 : decode cX11_mesh 62 = .ok (.if_icmp .eq 7, 3) := by decide +kernel
theorem dX11_mesh_65 : decode cX11_mesh 65 = .ok (.iconst 1, 1) := by decide +kernel
theorem dX11_mesh_66 : decode cX11_mesh 66 = .ok (.goto 4, 3) := by decide +kernel
theorem dX11_mesh_69 : decode cX11_mesh 69 = .ok (.iconst 0, 1) := by decide +kernel
theorem dX11_mesh_70 : decode cX11_mesh 70 = .ok (.invokestatic 233, 3) := by decide +kernel
theorem dX11_mesh_73 : decode cX11_mesh 73 = .ok (.aload_n 0, 1) := by decide +kernel
theorem dX11_mesh_74 : decode cX11_mesh 74 = .ok (.getfield 19, 3) := by decide +kernel
theorem dX11_mesh_77 : decode cX11_mesh 77 = .ok (.getfield 236, 3) := by decide +kernel
theorem dX11_mesh_80 : decode cX11_mesh 80 = .ok (.bipush 20, 2) := by decide +kernel
theorem dX11_mesh_82 : decode cX11_mesh 82 = .ok (.if_icmp .ge 7, 3) := by decide +kernel
theorem dX11_mesh_85 : decode cX11_mesh 85 = .ok (.iconst 1, 1) := by decide +kernel
theorem dX11_mesh_86 : decode cX11_mesh 86 = .ok (.goto 4, 3) := by decide +kernel
theorem dX11_mesh_89 : decode cX11_mesh 89 = .ok (.iconst 0, 1) := by decide +kernel
theorem dX11_mesh_90 : decode cX11_mesh 90 = .ok (.invokestatic 223, 3) := by decide +kernel
theorem dX11_mesh_93 : decode cX11_mesh 93 = .ok (.aload_n 0, 1) := by decide +kernel
theorem dX11_mesh_94 : decode cX11_mesh 94 = .ok (.getfield 19, 3) := by decide +kernel
theorem dX11_mesh_97 : decode cX11_mesh 97 = .ok (.iload_n 1, 1) := by decide +kernel
theorem dX11_mesh_98 : decode cX11_mesh 98 = .ok (.iload_n 2, 1) := by decide +kernel
theorem dX11_mesh_99 : decode cX11_mesh 99 = .ok (.iload_n 3, 1) := by decide +kernel
theorem dX11_mesh_100 : decode cX11_mesh 100 = .ok (.iload 4, 2) := by decide +kernel
theorem dX11_mesh_102 : decode cX11_mesh 102 = .ok (.invokevirtual 239, 3) := by decide +kernel
theorem dX11_mesh_105 : decode cX11_mesh 105 = .ok (.ireturn, 1) := by decide +kernel
theorem dX11_shaft_0 : decode cX11_shaft 0 = .ok (.iload_n 1, 1) := by decide +kernel
theorem dX11_shaft_1 : decode cX11_shaft 1 = .ok (.iconst 0, 1) := by decide +kernel
theorem dX11_shaft_2 : decode cX11_shaft 2 = .ok (.bipush 11, 2) := by decide +kernel
theorem dX11_shaft_4 : decode cX11_shaft 4 = .ok (.invokestatic 86, 3) := by decide +kernel
theorem dX11_shaft_7 : decode cX11_shaft 7 = .ok (.iload_n 2, 1) := by decide +kernel
theorem dX11_shaft_8 : decode cX11_shaft 8 = .ok (.iconst 0, 1) := by decide +kernel
theorem dX11_shaft_9 : decode cX11_shaft 9 = .ok (.iconst 2, 1) := by decide +kernel
theorem dX11_shaft_10 : decode cX11_shaft 10 = .ok (.invokestatic 86, 3) := by decide +kernel
theorem dX11_shaft_13 : decode cX11_shaft 13 = .ok (.iload_n 2, 1) := by decide +kernel
theorem dX11_shaft_14 : decode cX11_shaft 14 = .ok (.iconst 2, 1) := by decide +kernel
theorem dX11_shaft_15 : decode cX11_shaft 15 = .ok (.if_icmp .ne 22, 3) := by decide +kernel
theorem dX11_shaft_18 : decode cX11_shaft 18 = .ok (.iload_n 3, 1) := by decide +kernel
theorem dX11_shaft_19 : decode cX11_shaft 19 = .ok (.sipush (-1000), 3) := by decide +kernel
theorem dX11_shaft_22 : decode cX11_shaft 22 = .ok (.sipush 1000, 3) := by decide +kernel
theorem dX11_shaft_25 : decode cX11_shaft 25 = .ok (.invokestatic 86, 3) := by decide +kernel
theorem dX11_shaft_28 : decode cX11_shaft 28 = .ok (.iload 4, 2) := by decide +kernel
theorem dX11_shaft_30 : decode cX11_shaft 30 = .ok (.iconst 1, 1) := by decide +kernel
theorem dX11_shaft_31 : decode cX11_shaft 31 = .ok (.sipush 1000, 3) := by decide +kernel
theorem dX11_shaft_34 : decode cX11_shaft 34 = .ok (.invokestatic 86, 3) := by decide +kernel
theorem dX11_shaft_37 : decode cX11_shaft 37 = .ok (.aload_n 0, 1) := by decide +kernel
theorem dX11_shaft_38 : decode cX11_shaft 38 = .ok (.getfield 19, 3) := by decide +kernel
theorem dX11_shaft_41 : decode cX11_shaft 41 = .ok (.iload_n 1, 1) := by decide +kernel
theorem dX11_shaft_42 : decode cX11_shaft 42 = .ok (.iload_n 2, 1) := by decide +kernel
theorem dX11_shaft_43 : decode cX11_shaft 43 = .ok (.iload_n 3, 1) := by decide +kernel
theorem dX11_shaft_44 : decode cX11_shaft 44 = .ok (.iload 4, 2) := by decide +kernel
theorem dX11_shaft_46 : decode cX11_shaft 46 = .ok (.invokevirtual 243, 3) := by decide +kernel
theorem dX11_shaft_49 : decode cX11_shaft 49 = .ok (.return_, 1) := by decide +kernel
theorem dX11_clear_0 : decode cX11_clear 0 = .ok (.aload_n 0, 1) := by decide +kernel
theorem dX11_clear_1 : decode cX11_clear 1 = .ok (.getfield 19, 3) := by decide +kernel
theorem dX11_clear_4 : decode cX11_clear 4 = .ok (.invokevirtual 246, 3) := by decide +kernel
theorem dX11_clear_7 : decode cX11_clear 7 = .ok (.return_, 1) := by decide +kernel
theorem dX11_solved_0 : decode cX11_solved 0 = .ok (.aload_n 0, 1) := by decide +kernel
theorem dX11_solved_1 : decode cX11_solved 1 = .ok (.getfield 19, 3) := by decide +kernel
theorem dX11_solved_4 : decode cX11_solved 4 = .ok (.invokevirtual 249, 3) := by decide +kernel
theorem dX11_solved_7 : decode cX11_solved 7 = .ok (.ireturn, 1) := by decide +kernel
theorem dX11_turns_0 : decode cX11_turns 0 = .ok (.iload_n 1, 1) := by decide +kernel
theorem dX11_turns_1 : decode cX11_turns 1 = .ok (.iconst 0, 1) := by decide +kernel
theorem dX11_turns_2 : decode cX11_turns 2 = .ok (.bipush 11, 2) := by decide +kernel
theorem dX11_turns_4 : decode cX11_turns 4 = .ok (.invokestatic 86, 3) := by decide +kernel
theorem dX11_turns_7 : decode cX11_turns 7 = .ok (.iload_n 2, 1) := by decide +kernel
theorem dX11_turns_8 : decode cX11_turns 8 = .ok (.iconst 0, 1) := by decide +kernel
theorem dX11_turns_9 : decode cX11_turns 9 = .ok (.iconst 1, 1) := by decide +kernel
theorem dX11_turns_10 : decode cX11_turns 10 = .ok (.invokestatic 86, 3) := by decide +kernel
theorem dX11_turns_13 : decode cX11_turns 13 = .ok (.aload_n 0, 1) := by decide +kernel
theorem dX11_turns_14 : decode cX11_turns 14 = .ok (.getfield 19, 3) := by decide +kernel
theorem dX11_turns_17 : decode cX11_turns 17 = .ok (.invokevirtual 249, 3) := by decide +kernel
theorem dX11_turns_20 : decode cX11_turns 20 = .ok (.iconst 1, 1) := by decide +kernel
theorem dX11_turns_21 : decode cX11_turns 21 = .ok (.if_icmp .ne 7, 3) := by decide +kernel
theorem dX11_turns_24 : decode cX11_turns 24 = .ok (.iconst 1, 1) := by decide +kernel
theorem dX11_turns_25 : decode cX11_turns 25 = .ok (.goto 4, 3) := by decide +kernel
theorem dX11_turns_28 : decode cX11_turns 28 = .ok (.iconst 0, 1) := by decide +kernel
theorem dX11_turns_29 : decode cX11_turns 29 = .ok (.invokestatic 233, 3) := by decide +kernel
theorem dX11_turns_32 : decode cX11_turns 32 = .ok (.aload_n 0, 1) := by decide +kernel
theorem dX11_turns_33 : decode cX11_turns 33 = .ok (.getfield 19, 3) := by decide +kernel
theorem dX11_turns_36 : decode cX11_turns 36 = .ok (.iload_n 1, 1) := by decide +kernel
theorem dX11_turns_37 : decode cX11_turns 37 = .ok (.aload_n 0, 1) := by decide +kernel
theorem dX11_turns_38 : decode cX11_turns 38 = .ok (.getfield 47, 3) := by decide +kernel
theorem dX11_turns_41 : decode cX11_turns 41 = .ok (.invokevirtual 252, 3) := by decide +kernel
theorem dX11_turns_44 : decode cX11_turns 44 = .ok (.invokestatic 128, 3) := by decide +kernel
theorem dX11_turns_47 : decode cX11_turns 47 = .ok (.aload_n 0, 1) := by decide +kernel
theorem dX11_turns_48 : decode cX11_turns 48 = .ok (.getfield 47, 3) := by decide +kernel
theorem dX11_turns_51 : decode cX11_turns 51 = .ok (.iload_n 2, 1) := by decide +kernel
theorem dX11_turns_52 : decode cX11_turns 52 = .ok (.invokevirtual 256, 3) := by decide +kernel
theorem dX11_turns_55 : decode cX11_turns 55 = .ok (.lreturn, 1) := by decide +kernel
theorem dX11_interference_0 : decode cX11_interference 0 = .ok (.iload_n 1, 1) := by decide +kernel
theorem dX11_interference_1 : decode cX11_interference 1 = .ok (.aload_n 0, 1) := by decide +kernel
theorem dX11_interference_2 : decode cX11_interference 2 = .ok (.getfield 19, 3) := by decide +kernel
theorem dX11_interference_5 : decode cX11_interference 5 = .ok (.getfield 220, 3) := by decide +kernel
theorem dX11_interference_8 : decode cX11_interference 8 = .ok (.invokestatic 124, 3) := by decide +kernel
theorem dX11_interference_11 : decode cX11_interference 11 = .ok (.ifCond .eq 21, 3) := by decide +kernel
theorem dX11_interference_14 : decode cX11_interference 14 = .ok (.iload_n 2, 1) := by decide +kernel
theorem dX11_interference_15 : decode cX11_interference 15 = .ok (.aload_n 0, 1) := by decide +kernel
theorem dX11_interference_16 : decode cX11_interference 16 = .ok (.getfield 19, 3) := by decide +kernel
theorem dX11_interference_19 : decode cX11_interference 19 = .ok (.getfield 220, 3) := by decide +kernel
theorem dX11_interference_22 : decode cX11_interference 22 = .ok (.invokestatic 124, 3) := by decide +kernel
theorem dX11_interference_25 : decode cX11_interference 25 = .ok (.ifCond .eq 7, 3) := by decide +kernel
theorem dX11_interference_28 : decode cX11_interference 28 = .ok (.iconst 1, 1) := by decide +kernel
theorem dX11_interference_29 : decode cX11_interference 29 = .ok (.goto 4, 3) := by decide +kernel
theorem dX11_interference_32 : decode cX11_interference 32 = .ok (.iconst 0, 1) := by decide +kernel
theorem dX11_interference_33 : decode cX11_interference 33 = .ok (.invokestatic 128, 3) := by decide +kernel
theorem dX11_interference_36 : decode cX11_interference 36 = .ok (.aload_n 0, 1) := by decide +kernel
theorem dX11_interference_37 : decode cX11_interference 37 = .ok (.getfield 19, 3) := by decide +kernel
theorem dX11_interference_40 : decode cX11_interference 40 = .ok (.iload_n 1, 1) := by decide +kernel
theorem dX11_interference_41 : decode cX11_interference 41 = .ok (.iload_n 2, 1) := by decide +kernel
theorem dX11_interference_42 : decode cX11_interference 42 = .ok (.iload_n 3, 1) := by decide +kernel
theorem dX11_interference_43 : decode cX11_interference 43 = .ok (.invokevirtual 257, 3) := by decide +kernel
theorem dX11_interference_46 : decode cX11_interference 46 = .ok (.ireturn, 1) := by decide +kernel
theorem dX11_trains_0 : decode cX11_trains 0 = .ok (.iload_n 1, 1) := by decide +kernel
theorem dX11_trains_1 : decode cX11_trains 1 = .ok (.iconst 1, 1) := by decide +kernel
theorem dX11_trains_2 : decode cX11_trains 2 = .ok (.sipush 10000, 3) := by decide +kernel
theorem dX11_trains_5 : decode cX11_trains 5 = .ok (.invokestatic 86, 3) := by decide +kernel
theorem dX11_trains_8 : decode cX11_trains 8 = .ok (.iload_n 2, 1) := by decide +kernel
theorem dX11_trains_9 : decode cX11_trains 9 = .ok (.iconst 1, 1) := by decide +kernel
theorem dX11_trains_10 : decode cX11_trains 10 = .ok (.sipush 10000, 3) := by decide +kernel
theorem dX11_trains_13 : decode cX11_trains 13 = .ok (.invokestatic 86, 3) := by decide +kernel
theorem dX11_trains_16 : decode cX11_trains 16 = .ok (.iload_n 3, 1) := by decide +kernel
theorem dX11_trains_17 : decode cX11_trains 17 = .ok (.iconst 4, 1) := by decide +kernel
theorem dX11_trains_18 : decode cX11_trains 18 = .ok (.bipush 120, 2) := by decide +kernel
theorem dX11_trains_20 : decode cX11_trains 20 = .ok (.invokestatic 86, 3) := by decide +kernel
theorem dX11_trains_23 : decode cX11_trains 23 = .ok (.iload 4, 2) := by decide +kernel
theorem dX11_trains_25 : decode cX11_trains 25 = .ok (.iload_n 3, 1) := by decide +kernel
theorem dX11_trains_26 : decode cX11_trains 26 = .ok (.bipush 120, 2) := by decide +kernel
theorem dX11_trains_28 : decode cX11_trains 28 = .ok (.invokestatic 86, 3) := by decide +kernel
theorem dX11_trains_31 : decode cX11_trains 31 = .ok (.aload_n 0, 1) := by decide +kernel
theorem dX11_trains_32 : decode cX11_trains 32 = .ok (.getfield 19, 3) := by decide +kernel
theorem dX11_trains_35 : decode cX11_trains 35 = .ok (.iload_n 1, 1) := by decide +kernel
theorem dX11_trains_36 : decode cX11_trains 36 = .ok (.iload_n 2, 1) := by decide +kernel
theorem dX11_trains_37 : decode cX11_trains 37 = .ok (.iload_n 3, 1) := by decide +kernel
theorem dX11_trains_38 : decode cX11_trains 38 = .ok (.iload 4, 2) := by decide +kernel
theorem dX11_trains_40 : decode cX11_trains 40 = .ok (.invokevirtual 261, 3) := by decide +kernel
theorem dX11_trains_43 : decode cX11_trains 43 = .ok (.ireturn, 1) := by decide +kernel
theorem dX11_train_0 : decode cX11_train 0 = .ok (.iload_n 2, 1) := by decide +kernel
theorem dX11_train_1 : decode cX11_train 1 = .ok (.iconst 0, 1) := by decide +kernel
theorem dX11_train_2 : decode cX11_train 2 = .ok (.iconst 3, 1) := by decide +kernel
theorem dX11_train_3 : decode cX11_train 3 = .ok (.invokestatic 86, 3) := by decide +kernel
theorem dX11_train_6 : decode cX11_train 6 = .ok (.iload_n 1, 1) := by decide +kernel
theorem dX11_train_7 : decode cX11_train 7 = .ok (.aload_n 0, 1) := by decide +kernel
theorem dX11_train_8 : decode cX11_train 8 = .ok (.getfield 19, 3) := by decide +kernel
theorem dX11_train_11 : decode cX11_train 11 = .ok (.getfield 265, 3) := by decide +kernel
theorem dX11_train_14 : decode cX11_train 14 = .ok (.invokestatic 124, 3) := by decide +kernel
theorem dX11_train_17 : decode cX11_train 17 = .ok (.invokestatic 128, 3) := by decide +kernel
theorem dX11_train_20 : decode cX11_train 20 = .ok (.aload_n 0, 1) := by decide +kernel
theorem dX11_train_21 : decode cX11_train 21 = .ok (.getfield 19, 3) := by decide +kernel
theorem dX11_train_24 : decode cX11_train 24 = .ok (.getfield 268, 3) := by decide +kernel
theorem dX11_train_27 : decode cX11_train 27 = .ok (.iconst 4, 1) := by decide +kernel
theorem dX11_train_28 : decode cX11_train 28 = .ok (.iload_n 1, 1) := by decide +kernel
theorem dX11_train_29 : decode cX11_train 29 = .ok (.imul, 1) := by decide +kernel
theorem dX11_train_30 : decode cX11_train 30 = .ok (.iload_n 2, 1) := by decide +kernel
theorem dX11_train_31 : decode cX11_train 31 = .ok (.iadd, 1) := by decide +kernel
theorem dX11_train_32 : decode cX11_train 32 = .ok (.iaload, 1) := by decide +kernel
theorem dX11_train_33 : decode cX11_train 33 = .ok (.ireturn, 1) := by decide +kernel
theorem dX11_cam_0 : decode cX11_cam 0 = .ok (.aload_n 0, 1) := by decide +kernel
theorem dX11_cam_1 : decode cX11_cam 1 = .ok (.getfield 68, 3) := by decide +kernel
theorem dX11_cam_4 : decode cX11_cam 4 = .ok (.aload_n 0, 1) := by decide +kernel
theorem dX11_cam_5 : decode cX11_cam 5 = .ok (.getfield 10, 3) := by decide +kernel
theorem dX11_cam_8 : decode cX11_cam 8 = .ok (.invokevirtual 271, 3) := by decide +kernel
theorem dX11_cam_11 : decode cX11_cam 11 = .ok (.istore_n 1, 1) := by decide +kernel
theorem dX11_cam_12 : decode cX11_cam 12 = .ok (.aload_n 0, 1) := by decide +kernel
theorem dX11_cam_13 : decode cX11_cam 13 = .ok (.getfield 10, 3) := by decide +kernel
theorem dX11_cam_16 : decode cX11_cam 16 = .ok (.iconst 0, 1) := by decide +kernel
theorem dX11_cam_17 : decode cX11_cam 17 = .ok (.putfield 82, 3) := by decide +kernel
theorem dX11_cam_20 : decode cX11_cam 20 = .ok (.iload_n 1, 1) := by decide +kernel
theorem dX11_cam_21 : decode cX11_cam 21 = .ok (.ifCond .ne 11, 3) := by decide +kernel
theorem dX11_cam_24 : decode cX11_cam 24 = .ok (.new 100, 3) := by decide +kernel
theorem dX11_cam_27 : decode cX11_cam 27 = .ok (.dup, 1) := by decide +kernel
theorem dX11_cam_28 : decode cX11_cam 28 = .ok (.invokespecial 102, 3) := by decide +kernel
theorem dX11_cam_31 : decode cX11_cam 31 = .ok (.athrow, 1) := by decide +kernel
theorem dX11_cam_32 : decode cX11_cam 32 = .ok (.aload_n 0, 1) := by decide +kernel
theorem dX11_cam_33 : decode cX11_cam 33 = .ok (.getfield 64, 3) := by decide +kernel
theorem dX11_cam_36 : decode cX11_cam 36 = .ok (.astore_n 2, 1) := by decide +kernel
theorem dX11_cam_37 : decode cX11_cam 37 = .ok (.aload_n 0, 1) := by decide +kernel
theorem dX11_cam_38 : decode cX11_cam 38 = .ok (.aload_n 0, 1) := by decide +kernel
theorem dX11_cam_39 : decode cX11_cam 39 = .ok (.getfield 68, 3) := by decide +kernel
theorem dX11_cam_42 : decode cX11_cam 42 = .ok (.putfield 64, 3) := by decide +kernel
theorem dX11_cam_45 : decode cX11_cam 45 = .ok (.aload_n 0, 1) := by decide +kernel
theorem dX11_cam_46 : decode cX11_cam 46 = .ok (.aload_n 2, 1) := by decide +kernel
theorem dX11_cam_47 : decode cX11_cam 47 = .ok (.putfield 68, 3) := by decide +kernel
theorem dX11_cam_50 : decode cX11_cam 50 = .ok (.aload_n 0, 1) := by decide +kernel
theorem dX11_cam_51 : decode cX11_cam 51 = .ok (.getfield 64, 3) := by decide +kernel
theorem dX11_cam_54 : decode cX11_cam 54 = .ok (.getfield 272, 3) := by decide +kernel
theorem dX11_cam_57 : decode cX11_cam 57 = .ok (.ireturn, 1) := by decide +kernel
theorem dX11_lift_0 : decode cX11_lift 0 = .ok (.iload_n 3, 1) := by decide +kernel
theorem dX11_lift_1 : decode cX11_lift 1 = .ok (.iconst 0, 1) := by decide +kernel
theorem dX11_lift_2 : decode cX11_lift 2 = .ok (.iconst 1, 1) := by decide +kernel
theorem dX11_lift_3 : decode cX11_lift 3 = .ok (.invokestatic 86, 3) := by decide +kernel
theorem dX11_lift_6 : decode cX11_lift 6 = .ok (.iload_n 2, 1) := by decide +kernel
theorem dX11_lift_7 : decode cX11_lift 7 = .ok (.iconst 1, 1) := by decide +kernel
theorem dX11_lift_8 : decode cX11_lift 8 = .ok (.sipush 1000, 3) := by decide +kernel
theorem dX11_lift_11 : decode cX11_lift 11 = .ok (.invokestatic 86, 3) := by decide +kernel
theorem dX11_lift_14 : decode cX11_lift 14 = .ok (.iload_n 1, 1) := by decide +kernel
theorem dX11_lift_15 : decode cX11_lift 15 = .ok (.iconst 0, 1) := by decide +kernel
theorem dX11_lift_16 : decode cX11_lift 16 = .ok (.sipush 360, 3) := by decide +kernel
theorem dX11_lift_19 : decode cX11_lift 19 = .ok (.iload_n 2, 1) := by decide +kernel
theorem dX11_lift_20 : decode cX11_lift 20 = .ok (.imul, 1) := by decide +kernel
theorem dX11_lift_21 : decode cX11_lift 21 = .ok (.iconst 1, 1) := by decide +kernel
theorem dX11_lift_22 : decode cX11_lift 22 = .ok (.isub, 1) := by decide +kernel
theorem dX11_lift_23 : decode cX11_lift 23 = .ok (.invokestatic 86, 3) := by decide +kernel
theorem dX11_lift_26 : decode cX11_lift 26 = .ok (.aload_n 0, 1) := by decide +kernel
theorem dX11_lift_27 : decode cX11_lift 27 = .ok (.getfield 64, 3) := by decide +kernel
theorem dX11_lift_30 : decode cX11_lift 30 = .ok (.getfield 272, 3) := by decide +kernel
theorem dX11_lift_33 : decode cX11_lift 33 = .ok (.ifCond .le 7, 3) := by decide +kernel
theorem dX11_lift_36 : decode cX11_lift 36 = .ok (.iconst 1, 1) := by decide +kernel
theorem dX11_lift_37 : decode cX11_lift 37 = .ok (.goto 4, 3) := by decide +kernel
theorem dX11_lift_40 : decode cX11_lift 40 = .ok (.iconst 0, 1) := by decide +kernel
theorem dX11_lift_41 : decode cX11_lift 41 = .ok (.invokestatic 128, 3) := by decide +kernel
theorem dX11_lift_44 : decode cX11_lift 44 = .ok (.aload_n 0, 1) := by decide +kernel
theorem dX11_lift_45 : decode cX11_lift 45 = .ok (.getfield 64, 3) := by decide +kernel
theorem dX11_lift_48 : decode cX11_lift 48 = .ok (.iload_n 1, 1) := by decide +kernel
theorem dX11_lift_49 : decode cX11_lift 49 = .ok (.i2l, 1) := by decide +kernel
theorem dX11_lift_50 : decode cX11_lift 50 = .ok (.iload_n 2, 1) := by decide +kernel
theorem dX11_lift_51 : decode cX11_lift 51 = .ok (.i2l, 1) := by decide +kernel
theorem dX11_lift_52 : decode cX11_lift 52 = .ok (.aload_n 0, 1) := by decide +kernel
theorem dX11_lift_53 : decode cX11_lift 53 = .ok (.getfield 47, 3) := by decide +kernel
theorem dX11_lift_56 : decode cX11_lift 56 = .ok (.invokevirtual 273, 3) := by decide +kernel
theorem dX11_lift_59 : decode cX11_lift 59 = .ok (.aload_n 0, 1) := by decide +kernel
theorem dX11_lift_60 : decode cX11_lift 60 = .ok (.getfield 47, 3) := by decide +kernel
theorem dX11_lift_63 : decode cX11_lift 63 = .ok (.getfield 277, 3) := by decide +kernel
theorem dX11_lift_66 : decode cX11_lift 66 = .ok (.ifCond .ne 7, 3) := by decide +kernel
theorem dX11_lift_69 : decode cX11_lift 69 = .ok (.iconst 1, 1) := by decide +kernel
theorem dX11_lift_70 : decode cX11_lift 70 = .ok (.goto 4, 3) := by decide +kernel
theorem dX11_lift_73 : decode cX11_lift 73 = .ok (.iconst 0, 1) := by decide +kernel
theorem dX11_lift_74 : decode cX11_lift 74 = .ok (.invokestatic 233, 3) := by decide +kernel
theorem dX11_lift_77 : decode cX11_lift 77 = .ok (.aload_n 0, 1) := by decide +kernel
theorem dX11_lift_78 : decode cX11_lift 78 = .ok (.getfield 47, 3) := by decide +kernel
theorem dX11_lift_81 : decode cX11_lift 81 = .ok (.iload_n 3, 1) := by decide +kernel
theorem dX11_lift_82 : decode cX11_lift 82 = .ok (.invokevirtual 256, 3) := by decide +kernel
theorem dX11_lift_85 : decode cX11_lift 85 = .ok (.lreturn, 1) := by decide +kernel
theorem dX11_camAbout_0 : decode cX11_camAbout 0 = .ok (.iload_n 1, 1) := by decide +kernel
theorem dX11_camAbout_1 : decode cX11_camAbout 1 = .ok (.iconst 0, 1) := by decide +kernel
theorem dX11_camAbout_2 : decode cX11_camAbout 2 = .ok (.iconst 3, 1) := by decide +kernel
theorem dX11_camAbout_3 : decode cX11_camAbout 3 = .ok (.invokestatic 86, 3) := by decide +kernel
theorem dX11_camAbout_6 : decode cX11_camAbout 6 = .ok (.aload_n 0, 1) := by decide +kernel
theorem dX11_camAbout_7 : decode cX11_camAbout 7 = .ok (.getfield 64, 3) := by decide +kernel
theorem dX11_camAbout_10 : decode cX11_camAbout 10 = .ok (.getfield 272, 3) := by decide +kernel
theorem dX11_camAbout_13 : decode cX11_camAbout 13 = .ok (.ifCond .le 7, 3) := by decide +kernel
theorem dX11_camAbout_16 : decode cX11_camAbout 16 = .ok (.iconst 1, 1) := by decide +kernel
theorem dX11_camAbout_17 : decode cX11_camAbout 17 = .ok (.goto 4, 3) := by decide +kernel
theorem dX11_camAbout_20 : decode cX11_camAbout 20 = .ok (.iconst 0, 1) := by decide +kernel
theorem dX11_camAbout_21 : decode cX11_camAbout 21 = .ok (.invokestatic 128, 3) := by decide +kernel
theorem dX11_camAbout_24 : decode cX11_camAbout 24 = .ok (.iload_n 1, 1) := by decide +kernel
theorem dX11_camAbout_25 : decode cX11_camAbout 25 = .ok (.ifCond .ne 12, 3) := by decide +kernel
theorem dX11_camAbout_28 : decode cX11_camAbout 28 = .ok (.aload_n 0, 1) := by decide +kernel
theorem dX11_camAbout_29 : decode cX11_camAbout 29 = .ok (.getfield 64, 3) := by decide +kernel
theorem dX11_camAbout_32 : decode cX11_camAbout 32 = .ok (.invokevirtual 280, 3) := by decide +kernel
theorem dX11_camAbout_35 : decode cX11_camAbout 35 = .ok (.i2l, 1) := by decide +kernel
theorem dX11_camAbout_36 : decode cX11_camAbout 36 = .ok (.lreturn, 1) := by decide +kernel
theorem dX11_camAbout_37 : decode cX11_camAbout 37 = .ok (.iload_n 1, 1) := by decide +kernel
theorem dX11_camAbout_38 : decode cX11_camAbout 38 = .ok (.iconst 3, 1) := by decide +kernel
theorem dX11_camAbout_39 : decode cX11_camAbout 39 = .ok (.if_icmp .ne 12, 3) := by decide +kernel
theorem dX11_camAbout_42 : decode cX11_camAbout 42 = .ok (.aload_n 0, 1) := by decide +kernel
theorem dX11_camAbout_43 : decode cX11_camAbout 43 = .ok (.getfield 64, 3) := by decide +kernel
theorem dX11_camAbout_46 : decode cX11_camAbout 46 = .ok (.getfield 272, 3) := by decide +kernel
theorem dX11_camAbout_49 : decode cX11_camAbout 49 = .ok (.i2l, 1) := by decide +kernel
theorem dX11_camAbout_50 : decode cX11_camAbout 50 = .ok (.lreturn, 1) := by decide +kernel
theorem dX11_camAbout_51 : decode cX11_camAbout 51 = .ok (.aload_n 0, 1) := by decide +kernel
theorem dX11_camAbout_52 : decode cX11_camAbout 52 = .ok (.getfield 64, 3) := by decide +kernel
theorem dX11_camAbout_55 : decode cX11_camAbout 55 = .ok (.aload_n 0, 1) := by decide +kernel
theorem dX11_camAbout_56 : decode cX11_camAbout 56 = .ok (.getfield 47, 3) := by decide +kernel
theorem dX11_camAbout_59 : decode cX11_camAbout 59 = .ok (.invokevirtual 283, 3) := by decide +kernel
theorem dX11_camAbout_62 : decode cX11_camAbout 62 = .ok (.aload_n 0, 1) := by decide +kernel
theorem dX11_camAbout_63 : decode cX11_camAbout 63 = .ok (.getfield 47, 3) := by decide +kernel
theorem dX11_camAbout_66 : decode cX11_camAbout 66 = .ok (.iload_n 1, 1) := by decide +kernel
theorem dX11_camAbout_67 : decode cX11_camAbout 67 = .ok (.iconst 1, 1) := by decide +kernel
theorem dX11_camAbout_68 : decode cX11_camAbout 68 = .ok (.isub, 1) := by decide +kernel
theorem dX11_camAbout_69 : decode cX11_camAbout 69 = .ok (.invokevirtual 256, 3) := by decide +kernel
theorem dX11_camAbout_72 : decode cX11_camAbout 72 = .ok (.lreturn, 1) := by decide +kernel
theorem dX11_corner_0 : decode cX11_corner 0 = .ok (.iload_n 1, 1) := by decide +kernel
theorem dX11_corner_1 : decode cX11_corner 1 = .ok (.iconst 0, 1) := by decide +kernel
theorem dX11_corner_2 : decode cX11_corner 2 = .ok (.bipush 7, 2) := by decide +kernel
theorem dX11_corner_4 : decode cX11_corner 4 = .ok (.invokestatic 86, 3) := by decide +kernel
theorem dX11_corner_7 : decode cX11_corner 7 = .ok (.iload_n 2, 1) := by decide +kernel
theorem dX11_corner_8 : decode cX11_corner 8 = .ok (.sipush (-1000), 3) := by decide +kernel
theorem dX11_corner_11 : decode cX11_corner 11 = .ok (.sipush 1000, 3) := by decide +kernel
theorem dX11_corner_14 : decode cX11_corner 14 = .ok (.invokestatic 86, 3) := by decide +kernel
theorem dX11_corner_17 : decode cX11_corner 17 = .ok (.iload_n 3, 1) := by decide +kernel
theorem dX11_corner_18 : decode cX11_corner 18 = .ok (.sipush (-1000), 3) := by decide +kernel
theorem dX11_corner_21 : decode cX11_corner 21 = .ok (.sipush 1000, 3) := by decide +kernel
theorem dX11_corner_24 : decode cX11_corner 24 = .ok (.invokestatic 86, 3) := by decide +kernel
theorem dX11_corner_27 : decode cX11_corner 27 = .ok (.aload_n 0, 1) := by decide +kernel
theorem dX11_corner_28 : decode cX11_corner 28 = .ok (.getfield 25, 3) := by decide +kernel
theorem dX11_corner_31 : decode cX11_corner 31 = .ok (.iload_n 1, 1) := by decide +kernel
theorem dX11_corner_32 : decode cX11_corner 32 = .ok (.aaload, 1) := by decide +kernel
theorem dX11_corner_33 : decode cX11_corner 33 = .ok (.getfield 287, 3) := by decide +kernel
theorem dX11_corner_36 : decode cX11_corner 36 = .ok (.bipush 24, 2) := by decide +kernel
theorem dX11_corner_38 : decode cX11_corner 38 = .ok (.if_icmp .ge 7, 3) := by decide +kernel
theorem dX11_corner_41 : decode cX11_corner 41 = .ok (.iconst 1, 1) := by decide +kernel
theorem dX11_corner_42 : decode cX11_corner 42 = .ok (.goto 4, 3) := by decide +kernel
theorem dX11_corner_45 : decode cX11_corner 45 = .ok (.iconst 0, 1) := by decide +kernel
theorem dX11_corner_46 : decode cX11_corner 46 = .ok (.invokestatic 223, 3) := by decide +kernel
theorem dX11_corner_49 : decode cX11_corner 49 = .ok (.aload_n 0, 1) := by decide +kernel
theorem dX11_corner_50 : decode cX11_corner 50 = .ok (.getfield 25, 3) := by decide +kernel
theorem dX11_corner_53 : decode cX11_corner 53 = .ok (.iload_n 1, 1) := by decide +kernel
theorem dX11_corner_54 : decode cX11_corner 54 = .ok (.aaload, 1) := by decide +kernel
theorem dX11_corner_55 : decode cX11_corner 55 = .ok (.iload_n 2, 1) := by decide +kernel
theorem dX11_corner_56 : decode cX11_corner 56 = .ok (.iload_n 3, 1) := by decide +kernel
theorem dX11_corner_57 : decode cX11_corner 57 = .ok (.invokevirtual 288, 3) := by decide +kernel
theorem dX11_corner_60 : decode cX11_corner 60 = .ok (.ireturn, 1) := by decide +kernel
theorem dX11_empty_0 : decode cX11_empty 0 = .ok (.iload_n 1, 1) := by decide +kernel
theorem dX11_empty_1 : decode cX11_empty 1 = .ok (.iconst 0, 1) := by decide +kernel
theorem dX11_empty_2 : decode cX11_empty 2 = .ok (.bipush 7, 2) := by decide +kernel
theorem dX11_empty_4 : decode cX11_empty 4 = .ok (.invokestatic 86, 3) := by decide +kernel
theorem dX11_empty_7 : decode cX11_empty 7 = .ok (.aload_n 0, 1) := by decide +kernel
theorem dX11_empty_8 : decode cX11_empty 8 = .ok (.getfield 25, 3) := by decide +kernel
theorem dX11_empty_11 : decode cX11_empty 11 = .ok (.iload_n 1, 1) := by decide +kernel
theorem dX11_empty_12 : decode cX11_empty 12 = .ok (.aaload, 1) := by decide +kernel
theorem dX11_empty_13 : decode cX11_empty 13 = .ok (.iconst 0, 1) := by decide +kernel
theorem dX11_empty_14 : decode cX11_empty 14 = .ok (.putfield 287, 3) := by decide +kernel
theorem dX11_empty_17 : decode cX11_empty 17 = .ok (.return_, 1) := by decide +kernel
theorem dX11_plate_0 : decode cX11_plate 0 = .ok (.iload_n 1, 1) := by decide +kernel
theorem dX11_plate_1 : decode cX11_plate 1 = .ok (.iconst 0, 1) := by decide +kernel
theorem dX11_plate_2 : decode cX11_plate 2 = .ok (.bipush 7, 2) := by decide +kernel
theorem dX11_plate_4 : decode cX11_plate 4 = .ok (.invokestatic 86, 3) := by decide +kernel
theorem dX11_plate_7 : decode cX11_plate 7 = .ok (.iload_n 2, 1) := by decide +kernel
theorem dX11_plate_8 : decode cX11_plate 8 = .ok (.iconst 0, 1) := by decide +kernel
theorem dX11_plate_9 : decode cX11_plate 9 = .ok (.bipush 8, 2) := by decide +kernel
theorem dX11_plate_11 : decode cX11_plate 11 = .ok (.invokestatic 86, 3) := by decide +kernel
theorem dX11_plate_14 : decode cX11_plate 14 = .ok (.aload_n 0, 1) := by decide +kernel
theorem dX11_plate_15 : decode cX11_plate 15 = .ok (.getfield 25, 3) := by decide +kernel
theorem dX11_plate_18 : decode cX11_plate 18 = .ok (.iload_n 1, 1) := by decide +kernel
theorem dX11_plate_19 : decode cX11_plate 19 = .ok (.aaload, 1) := by decide +kernel
theorem dX11_plate_20 : decode cX11_plate 20 = .ok (.astore_n 3, 1) := by decide +kernel
theorem dX11_plate_21 : decode cX11_plate 21 = .ok (.aload_n 3, 1) := by decide +kernel
theorem dX11_plate_22 : decode cX11_plate 22 = .ok (.getfield 287, 3) := by decide +kernel
theorem dX11_plate_25 : decode cX11_plate 25 = .ok (.iconst 3, 1) := by decide +kernel
theorem dX11_plate_26 : decode cX11_plate 26 = .ok (.if_icmp .lt 7, 3) := by decide +kernel
theorem dX11_plate_29 : decode cX11_plate 29 = .ok (.iconst 1, 1) := by decide +kernel
theorem dX11_plate_30 : decode cX11_plate 30 = .ok (.goto 4, 3) := by decide +kernel
theorem dX11_plate_33 : decode cX11_plate 33 = .ok (.iconst 0, 1) := by decide +kernel
theorem dX11_plate_34 : decode cX11_plate 34 = .ok (.invokestatic 128, 3) := by decide +kernel
theorem dX11_plate_37 : decode cX11_plate 37 = .ok (.iload_n 2, 1) := by decide +kernel
theorem dX11_plate_38 : decode cX11_plate 38 = .ok (.ifCond .ne 8, 3) := by decide +kernel
theorem dX11_plate_41 : decode cX11_plate 41 = .ok (.aload_n 3, 1) := by decide +kernel
theorem dX11_plate_42 : decode cX11_plate 42 = .ok (.invokevirtual 291, 3) := by decide +kernel
theorem dX11_plate_45 : decode cX11_plate 45 = .ok (.lreturn, 1) := by decide +kernel
theorem dX11_plate_46 : decode cX11_plate 46 = .ok (.iload_n 2, 1) := by decide +kernel
theorem dX11_plate_47 : decode cX11_plate 47 = .ok (.bipush 7, 2) := by decide +kernel
theorem dX11_plate_49 : decode cX11_plate 49 = .ok (.if_icmp .lt 20, 3) := by decide +kernel
theorem dX11_plate_52 : decode cX11_plate 52 = .ok (.aload_n 3, 1) := by decide +kernel
theorem dX11_plate_53 : decode cX11_plate 53 = .ok (.iload_n 2, 1) := by decide +kernel
theorem dX11_plate_54 : decode cX11_plate 54 = .ok (.bipush 7, 2) := by decide +kernel
theorem dX11_plate_56 : decode cX11_plate 56 = .ok (.if_icmp .ne 7, 3) := by decide +kernel
theorem dX11_plate_59 : decode cX11_plate 59 = .ok (.iconst 1, 1) := by decide +kernel
theorem dX11_plate_60 : decode cX11_plate 60 = .ok (.goto 4, 3) := by decide +kernel
theorem dX11_plate_63 : decode cX11_plate 63 = .ok (.iconst 0, 1) := by decide +kernel
theorem dX11_plate_64 : decode cX11_plate 64 = .ok (.invokevirtual 294, 3) := by decide +kernel
theorem dX11_plate_67 : decode cX11_plate 67 = .ok (.i2l, 1) := by decide +kernel
theorem dX11_plate_68 : decode cX11_plate 68 = .ok (.lreturn, 1) := by decide +kernel
theorem dX11_plate_69 : decode cX11_plate 69 = .ok (.iload_n 2, 1) := by decide +kernel
theorem dX11_plate_70 : decode cX11_plate 70 = .ok (.iconst 5, 1) := by decide +kernel
theorem dX11_plate_71 : decode cX11_plate 71 = .ok (.if_icmp .ge 12, 3) := by decide +kernel
theorem dX11_plate_74 : decode cX11_plate 74 = .ok (.aload_n 3, 1) := by decide +kernel
theorem dX11_plate_75 : decode cX11_plate 75 = .ok (.invokevirtual 291, 3) := by decide +kernel
theorem dX11_plate_78 : decode cX11_plate 78 = .ok (.lconst 0, 1) := by decide +kernel
theorem dX11_plate_79 : decode cX11_plate 79 = .ok (.lcmp, 1) := by decide +kernel
theorem dX11_plate_80 : decode cX11_plate 80 = .ok (.ifCond .eq 7, 3) := by decide +kernel
theorem dX11_plate_83 : decode cX11_plate 83 = .ok (.iconst 1, 1) := by decide +kernel
theorem dX11_plate_84 : decode cX11_plate 84 = .ok (.goto 4, 3) := by decide +kernel
theorem dX11_plate_87 : decode cX11_plate 87 = .ok (.iconst 0, 1) := by decide +kernel
theorem dX11_plate_88 : decode cX11_plate 88 = .ok (.invokestatic 128, 3) := by decide +kernel
theorem dX11_plate_91 : decode cX11_plate 91 = .ok (.aload_n 3, 1) := by decide +kernel
theorem dX11_plate_92 : decode cX11_plate 92 = .ok (.iload_n 2, 1) := by decide +kernel
theorem dX11_plate_93 : decode cX11_plate 93 = .ok (.iconst 1, 1) := by decide +kernel
theorem dX11_plate_94 : decode cX11_plate 94 = .ok (.isub, 1) := by decide +kernel
theorem dX11_plate_95 : decode cX11_plate 95 = .ok (.iconst 2, 1) := by decide +kernel
theorem dX11_plate_96 : decode cX11_plate 96 = .ok (.idiv, 1) := by decide +kernel
theorem dX11_plate_97 : decode cX11_plate 97 = .ok (.aload_n 0, 1) := by decide +kernel
theorem dX11_plate_98 : decode cX11_plate 98 = .ok (.getfield 47, 3) := by decide +kernel
theorem dX11_plate_101 : decode cX11_plate 101 = .ok (.invokevirtual 298, 3) := by decide +kernel
theorem dX11_plate_104 : decode cX11_plate 104 = .ok (.aload_n 0, 1) := by decide +kernel
theorem dX11_plate_105 : decode cX11_plate 105 = .ok (.getfield 47, 3) := by decide +kernel
theorem dX11_plate_108 : decode cX11_plate 108 = .ok (.iload_n 2, 1) := by decide +kernel
theorem dX11_plate_109 : decode cX11_plate 109 = .ok (.iconst 1, 1) := by decide +kernel
theorem dX11_plate_110 : decode cX11_plate 110 = .ok (.isub, 1) := by decide +kernel
theorem dX11_plate_111 : decode cX11_plate 111 = .ok (.iconst 2, 1) := by decide +kernel
theorem dX11_plate_112 : decode cX11_plate 112 = .ok (.irem, 1) := by decide +kernel
theorem dX11_plate_113 : decode cX11_plate 113 = .ok (.invokevirtual 256, 3) := by decide +kernel
theorem dX11_plate_116 : decode cX11_plate 116 = .ok (.lreturn, 1) := by decide +kernel
theorem dX11_inside_0 : decode cX11_inside 0 = .ok (.iload_n 1, 1) := by decide +kernel
theorem dX11_inside_1 : decode cX11_inside 1 = .ok (.iconst 0, 1) := by decide +kernel
theorem dX11_inside_2 : decode cX11_inside 2 = .ok (.bipush 7, 2) := by decide +kernel
theorem dX11_inside_4 : decode cX11_inside 4 = .ok (.invokestatic 86, 3) := by decide +kernel
theorem dX11_inside_7 : decode cX11_inside 7 = .ok (.iload_n 2, 1) := by decide +kernel
theorem dX11_inside_8 : decode cX11_inside 8 = .ok (.sipush (-1000), 3) := by decide +kernel
theorem dX11_inside_11 : decode cX11_inside 11 = .ok (.sipush 1000, 3) := by decide +kernel
theorem dX11_inside_14 : decode cX11_inside 14 = .ok (.invokestatic 86, 3) := by decide +kernel
theorem dX11_inside_17 : decode cX11_inside 17 = .ok (.iload_n 3, 1) := by decide +kernel
theorem dX11_inside_18 : decode cX11_inside 18 = .ok (.sipush (-1000), 3) := by decide +kernel
theorem dX11_inside_21 : decode cX11_inside 21 = .ok (.sipush 1000, 3) := by decide +kernel
theorem dX11_inside_24 : decode cX11_inside 24 = .ok (.invokestatic 86, 3) := by decide +kernel
theorem dX11_inside_27 : decode cX11_inside 27 = .ok (.aload_n 0, 1) := by decide +kernel
theorem dX11_inside_28 : decode cX11_inside 28 = .ok (.getfield 25, 3) := by decide +kernel
theorem dX11_inside_31 : decode cX11_inside 31 = .ok (.iload_n 1, 1) := by decide +kernel
theorem dX11_inside_32 : decode cX11_inside 32 = .ok (.aaload, 1) := by decide +kernel
theorem dX11_inside_33 : decode cX11_inside 33 = .ok (.getfield 287, 3) := by decide +kernel
theorem dX11_inside_36 : decode cX11_inside 36 = .ok (.iconst 3, 1) := by decide +kernel
theorem dX11_inside_37 : decode cX11_inside 37 = .ok (.if_icmp .lt 7, 3) := by decide +kernel
theorem dX11_inside_40 : decode cX11_inside 40 = .ok (.iconst 1, 1) := by decide +kernel
theorem dX11_inside_41 : decode cX11_inside 41 = .ok (.goto 4, 3) := by decide +kernel
theorem dX11_inside_44 : decode cX11_inside 44 = .ok (.iconst 0, 1) := by decide +kernel
theorem dX11_inside_45 : decode cX11_inside 45 = .ok (.invokestatic 128, 3) := by decide +kernel
theorem dX11_inside_48 : decode cX11_inside 48 = .ok (.aload_n 0, 1) := by decide +kernel
theorem dX11_inside_49 : decode cX11_inside 49 = .ok (.getfield 25, 3) := by decide +kernel
theorem dX11_inside_52 : decode cX11_inside 52 = .ok (.iload_n 1, 1) := by decide +kernel
theorem dX11_inside_53 : decode cX11_inside 53 = .ok (.aaload, 1) := by decide +kernel
theorem dX11_inside_54 : decode cX11_inside 54 = .ok (.iload_n 2, 1) := by decide +kernel
theorem dX11_inside_55 : decode cX11_inside 55 = .ok (.i2l, 1) := by decide +kernel
theorem dX11_inside_56 : decode cX11_inside 56 = .ok (.iload_n 3, 1) := by decide +kernel
theorem dX11_inside_57 : decode cX11_inside 57 = .ok (.i2l, 1) := by decide +kernel
theorem dX11_inside_58 : decode cX11_inside 58 = .ok (.invokevirtual 302, 3) := by decide +kernel
theorem dX11_inside_61 : decode cX11_inside 61 = .ok (.ireturn, 1) := by decide +kernel
theorem dX11_distance_0 : decode cX11_distance 0 = .ok (.iload_n 1, 1) := by decide +kernel
theorem dX11_distance_1 : decode cX11_distance 1 = .ok (.iconst 0, 1) := by decide +kernel
theorem dX11_distance_2 : decode cX11_distance 2 = .ok (.bipush 7, 2) := by decide +kernel
theorem dX11_distance_4 : decode cX11_distance 4 = .ok (.invokestatic 86, 3) := by decide +kernel
theorem dX11_distance_7 : decode cX11_distance 7 = .ok (.iload_n 2, 1) := by decide +kernel
theorem dX11_distance_8 : decode cX11_distance 8 = .ok (.iconst 0, 1) := by decide +kernel
theorem dX11_distance_9 : decode cX11_distance 9 = .ok (.bipush 7, 2) := by decide +kernel
theorem dX11_distance_11 : decode cX11_distance 11 = .ok (.invokestatic 86, 3) := by decide +kernel
theorem dX11_distance_14 : decode cX11_distance 14 = .ok (.iload_n 3, 1) := by decide +kernel
theorem dX11_distance_15 : decode cX11_distance 15 = .ok (.iconst 0, 1) := by decide +kernel
theorem dX11_distance_16 : decode cX11_distance 16 = .ok (.iconst 1, 1) := by decide +kernel
theorem dX11_distance_17 : decode cX11_distance 17 = .ok (.invokestatic 86, 3) := by decide +kernel
theorem dX11_distance_20 : decode cX11_distance 20 = .ok (.aload_n 0, 1) := by decide +kernel
theorem dX11_distance_21 : decode cX11_distance 21 = .ok (.getfield 25, 3) := by decide +kernel
theorem dX11_distance_24 : decode cX11_distance 24 = .ok (.iload_n 1, 1) := by decide +kernel
theorem dX11_distance_25 : decode cX11_distance 25 = .ok (.aaload, 1) := by decide +kernel
theorem dX11_distance_26 : decode cX11_distance 26 = .ok (.getfield 287, 3) := by decide +kernel
theorem dX11_distance_29 : decode cX11_distance 29 = .ok (.iconst 3, 1) := by decide +kernel
theorem dX11_distance_30 : decode cX11_distance 30 = .ok (.if_icmp .lt 20, 3) := by decide +kernel
theorem dX11_distance_33 : decode cX11_distance 33 = .ok (.aload_n 0, 1) := by decide +kernel
theorem dX11_distance_34 : decode cX11_distance 34 = .ok (.getfield 25, 3) := by decide +kernel
theorem dX11_distance_37 : decode cX11_distance 37 = .ok (.iload_n 2, 1) := by decide +kernel
theorem dX11_distance_38 : decode cX11_distance 38 = .ok (.aaload, 1) := by decide +kernel
theorem dX11_distance_39 : decode cX11_distance 39 = .ok (.getfield 287, 3) := by decide +kernel
theorem dX11_distance_42 : decode cX11_distance 42 = .ok (.iconst 3, 1) := by decide +kernel
theorem dX11_distance_43 : decode cX11_distance 43 = .ok (.if_icmp .lt 7, 3) := by decide +kernel
theorem dX11_distance_46 : decode cX11_distance 46 = .ok (.iconst 1, 1) := by decide +kernel
theorem dX11_distance_47 : decode cX11_distance 47 = .ok (.goto 4, 3) := by decide +kernel
theorem dX11_distance_50 : decode cX11_distance 50 = .ok (.iconst 0, 1) := by decide +kernel
theorem dX11_distance_51 : decode cX11_distance 51 = .ok (.invokestatic 128, 3) := by decide +kernel
theorem dX11_distance_54 : decode cX11_distance 54 = .ok (.aload_n 0, 1) := by decide +kernel
theorem dX11_distance_55 : decode cX11_distance 55 = .ok (.getfield 25, 3) := by decide +kernel
theorem dX11_distance_58 : decode cX11_distance 58 = .ok (.iload_n 1, 1) := by decide +kernel
theorem dX11_distance_59 : decode cX11_distance 59 = .ok (.aaload, 1) := by decide +kernel
theorem dX11_distance_60 : decode cX11_distance 60 = .ok (.aload_n 0, 1) := by decide +kernel
theorem dX11_distance_61 : decode cX11_distance 61 = .ok (.getfield 25, 3) := by decide +kernel
theorem dX11_distance_64 : decode cX11_distance 64 = .ok (.iload_n 2, 1) := by decide +kernel
theorem dX11_distance_65 : decode cX11_distance 65 = .ok (.aaload, 1) := by decide +kernel
theorem dX11_distance_66 : decode cX11_distance 66 = .ok (.aload_n 0, 1) := by decide +kernel
theorem dX11_distance_67 : decode cX11_distance 67 = .ok (.getfield 47, 3) := by decide +kernel
theorem dX11_distance_70 : decode cX11_distance 70 = .ok (.invokevirtual 306, 3) := by decide +kernel
theorem dX11_distance_73 : decode cX11_distance 73 = .ok (.aload_n 0, 1) := by decide +kernel
theorem dX11_distance_74 : decode cX11_distance 74 = .ok (.getfield 47, 3) := by decide +kernel
theorem dX11_distance_77 : decode cX11_distance 77 = .ok (.iload_n 3, 1) := by decide +kernel
theorem dX11_distance_78 : decode cX11_distance 78 = .ok (.invokevirtual 256, 3) := by decide +kernel
theorem dX11_distance_81 : decode cX11_distance 81 = .ok (.lreturn, 1) := by decide +kernel
theorem dX11_kinds_0 : decode cX11_kinds 0 = .ok (.iload_n 1, 1) := by decide +kernel
theorem dX11_kinds_1 : decode cX11_kinds 1 = .ok (.iconst 3, 1) := by decide +kernel
theorem dX11_kinds_2 : decode cX11_kinds 2 = .ok (.bipush 6, 2) := by decide +kernel
theorem dX11_kinds_4 : decode cX11_kinds 4 = .ok (.invokestatic 86, 3) := by decide +kernel
theorem dX11_kinds_7 : decode cX11_kinds 7 = .ok (.iload_n 2, 1) := by decide +kernel
theorem dX11_kinds_8 : decode cX11_kinds 8 = .ok (.iconst 0, 1) := by decide +kernel
theorem dX11_kinds_9 : decode cX11_kinds 9 = .ok (.bipush 15, 2) := by decide +kernel
theorem dX11_kinds_11 : decode cX11_kinds 11 = .ok (.invokestatic 86, 3) := by decide +kernel
theorem dX11_kinds_14 : decode cX11_kinds 14 = .ok (.aload_n 0, 1) := by decide +kernel
theorem dX11_kinds_15 : decode cX11_kinds 15 = .ok (.getfield 33, 3) := by decide +kernel
theorem dX11_kinds_18 : decode cX11_kinds 18 = .ok (.iload_n 1, 1) := by decide +kernel
theorem dX11_kinds_19 : decode cX11_kinds 19 = .ok (.iload_n 2, 1) := by decide +kernel
theorem dX11_kinds_20 : decode cX11_kinds 20 = .ok (.invokevirtual 310, 3) := by decide +kernel
theorem dX11_kinds_23 : decode cX11_kinds 23 = .ok (.aload_n 0, 1) := by decide +kernel
theorem dX11_kinds_24 : decode cX11_kinds 24 = .ok (.getfield 33, 3) := by decide +kernel
theorem dX11_kinds_27 : decode cX11_kinds 27 = .ok (.getfield 313, 3) := by decide +kernel
theorem dX11_kinds_30 : decode cX11_kinds 30 = .ok (.ireturn, 1) := by decide +kernel
theorem dX11_kind_0 : decode cX11_kind 0 = .ok (.iload_n 1, 1) := by decide +kernel
theorem dX11_kind_1 : decode cX11_kind 1 = .ok (.aload_n 0, 1) := by decide +kernel
theorem dX11_kind_2 : decode cX11_kind 2 = .ok (.getfield 33, 3) := by decide +kernel
theorem dX11_kind_5 : decode cX11_kind 5 = .ok (.getfield 313, 3) := by decide +kernel
theorem dX11_kind_8 : decode cX11_kind 8 = .ok (.invokestatic 124, 3) := by decide +kernel
theorem dX11_kind_11 : decode cX11_kind 11 = .ok (.invokestatic 128, 3) := by decide +kernel
theorem dX11_kind_14 : decode cX11_kind 14 = .ok (.aload_n 0, 1) := by decide +kernel
theorem dX11_kind_15 : decode cX11_kind 15 = .ok (.getfield 33, 3) := by decide +kernel
theorem dX11_kind_18 : decode cX11_kind 18 = .ok (.getfield 314, 3) := by decide +kernel
theorem dX11_kind_21 : decode cX11_kind 21 = .ok (.iload_n 1, 1) := by decide +kernel
theorem dX11_kind_22 : decode cX11_kind 22 = .ok (.iaload, 1) := by decide +kernel
theorem dX11_kind_23 : decode cX11_kind 23 = .ok (.ireturn, 1) := by decide +kernel
theorem dX11_drive_0 : decode cX11_drive 0 = .ok (.aload_n 0, 1) := by decide +kernel
theorem dX11_drive_1 : decode cX11_drive 1 = .ok (.getfield 40, 3) := by decide +kernel
theorem dX11_drive_4 : decode cX11_drive 4 = .ok (.aload_n 0, 1) := by decide +kernel
theorem dX11_drive_5 : decode cX11_drive 5 = .ok (.getfield 10, 3) := by decide +kernel
theorem dX11_drive_8 : decode cX11_drive 8 = .ok (.aload_n 0, 1) := by decide +kernel
theorem dX11_drive_9 : decode cX11_drive 9 = .ok (.getfield 54, 3) := by decide +kernel
theorem dX11_drive_12 : decode cX11_drive 12 = .ok (.invokevirtual 317, 3) := by decide +kernel
theorem dX11_drive_15 : decode cX11_drive 15 = .ok (.istore_n 1, 1) := by decide +kernel
theorem dX11_drive_16 : decode cX11_drive 16 = .ok (.aload_n 0, 1) := by decide +kernel
theorem dX11_drive_17 : decode cX11_drive 17 = .ok (.getfield 10, 3) := by decide +kernel
theorem dX11_drive_20 : decode cX11_drive 20 = .ok (.iconst 0, 1) := by decide +kernel
theorem dX11_drive_21 : decode cX11_drive 21 = .ok (.putfield 82, 3) := by decide +kernel
theorem dX11_drive_24 : decode cX11_drive 24 = .ok (.iload_n 1, 1) := by decide +kernel
theorem dX11_drive_25 : decode cX11_drive 25 = .ok (.ifCond .ne 11, 3) := by decide +kernel
theorem dX11_drive_28 : decode cX11_drive 28 = .ok (.new 100, 3) := by decide +kernel
theorem dX11_drive_31 : decode cX11_drive 31 = .ok (.dup, 1) := by decide +kernel
theorem dX11_drive_32 : decode cX11_drive 32 = .ok (.invokespecial 102, 3) := by decide +kernel
theorem dX11_drive_35 : decode cX11_drive 35 = .ok (.athrow, 1) := by decide +kernel
theorem dX11_drive_36 : decode cX11_drive 36 = .ok (.aload_n 0, 1) := by decide +kernel
theorem dX11_drive_37 : decode cX11_drive 37 = .ok (.getfield 40, 3) := by decide +kernel
theorem dX11_drive_40 : decode cX11_drive 40 = .ok (.aload_n 0, 1) := by decide +kernel
theorem dX11_drive_41 : decode cX11_drive 41 = .ok (.getfield 54, 3) := by decide +kernel
theorem dX11_drive_44 : decode cX11_drive 44 = .ok (.invokevirtual 320, 3) := by decide +kernel
theorem dX11_drive_47 : decode cX11_drive 47 = .ok (.ireturn, 1) := by decide +kernel
theorem dX11_event_0 : decode cX11_event 0 = .ok (.iload_n 2, 1) := by decide +kernel
theorem dX11_event_1 : decode cX11_event 1 = .ok (.iconst 0, 1) := by decide +kernel
theorem dX11_event_2 : decode cX11_event 2 = .ok (.iconst 2, 1) := by decide +kernel
theorem dX11_event_3 : decode cX11_event 3 = .ok (.invokestatic 86, 3) := by decide +kernel
theorem dX11_event_6 : decode cX11_event 6 = .ok (.iload_n 1, 1) := by decide +kernel
theorem dX11_event_7 : decode cX11_event 7 = .ok (.aload_n 0, 1) := by decide +kernel
theorem dX11_event_8 : decode cX11_event 8 = .ok (.getfield 40, 3) := by decide +kernel
theorem dX11_event_11 : decode cX11_event 11 = .ok (.invokevirtual 324, 3) := by decide +kernel
theorem dX11_event_14 : decode cX11_event 14 = .ok (.invokestatic 124, 3) := by decide +kernel
theorem dX11_event_17 : decode cX11_event 17 = .ok (.invokestatic 128, 3) := by decide +kernel
theorem dX11_event_20 : decode cX11_event 20 = .ok (.aload_n 0, 1) := by decide +kernel
theorem dX11_event_21 : decode cX11_event 21 = .ok (.getfield 40, 3) := by decide +kernel
theorem dX11_event_24 : decode cX11_event 24 = .ok (.getfield 327, 3) := by decide +kernel
theorem dX11_event_27 : decode cX11_event 27 = .ok (.iconst 3, 1) := by decide +kernel
theorem dX11_event_28 : decode cX11_event 28 = .ok (.iload_n 1, 1) := by decide +kernel
theorem dX11_event_29 : decode cX11_event 29 = .ok (.imul, 1) := by decide +kernel
theorem dX11_event_30 : decode cX11_event 30 = .ok (.iload_n 2, 1) := by decide +kernel
theorem dX11_event_31 : decode cX11_event 31 = .ok (.iadd, 1) := by decide +kernel
theorem dX11_event_32 : decode cX11_event 32 = .ok (.iaload, 1) := by decide +kernel
theorem dX11_event_33 : decode cX11_event 33 = .ok (.ireturn, 1) := by decide +kernel
theorem dX11_count_0 : decode cX11_count 0 = .ok (.iload_n 1, 1) := by decide +kernel
theorem dX11_count_1 : decode cX11_count 1 = .ok (.tableswitch 179 0 12 #[67, 75, 83, 93, 103, 113, 123, 131, 139, 147, 155, 163, 171], 67) := by decide +kernel
theorem dX11_count_68 : decode cX11_count 68 = .ok (.aload_n 0, 1) := by decide +kernel
theorem dX11_count_69 : decode cX11_count 69 = .ok (.getfield 54, 3) := by decide +kernel
theorem dX11_count_72 : decode cX11_count 72 = .ok (.getfield 103, 3) := by decide +kernel
theorem dX11_count_75 : decode cX11_count 75 = .ok (.ireturn, 1) := by decide +kernel
theorem dX11_count_76 : decode cX11_count 76 = .ok (.aload_n 0, 1) := by decide +kernel
theorem dX11_count_77 : decode cX11_count 77 = .ok (.getfield 54, 3) := by decide +kernel
theorem dX11_count_80 : decode cX11_count 80 = .ok (.getfield 329, 3) := by decide +kernel
theorem dX11_count_83 : decode cX11_count 83 = .ok (.ireturn, 1) := by decide +kernel
theorem dX11_count_84 : decode cX11_count 84 = .ok (.aload_n 0, 1) := by decide +kernel
theorem dX11_count_85 : decode cX11_count 85 = .ok (.getfield 54, 3) := by decide +kernel
theorem dX11_count_88 : decode cX11_count 88 = .ok (.getfield 163, 3) := by decide +kernel
theorem dX11_count_91 : decode cX11_count 91 = .ok (.iconst 0, 1) := by decide +kernel
theorem dX11_count_92 : decode cX11_count 92 = .ok (.iaload, 1) := by decide +kernel
theorem dX11_count_93 : decode cX11_count 93 = .ok (.ireturn, 1) := by decide +kernel
theorem dX11_count_94 : decode cX11_count 94 = .ok (.aload_n 0, 1) := by decide +kernel
theorem dX11_count_95 : decode cX11_count 95 = .ok (.getfield 54, 3) := by decide +kernel
theorem dX11_count_98 : decode cX11_count 98 = .ok (.getfield 163, 3) := by decide +kernel
theorem dX11_count_101 : decode cX11_count 101 = .ok (.iconst 1, 1) := by decide +kernel
theorem dX11_count_102 : decode cX11_count 102 = .ok (.iaload, 1) := by decide +kernel
theorem dX11_count_103 : decode cX11_count 103 = .ok (.ireturn, 1) := by decide +kernel
theorem dX11_count_104 : decode cX11_count 104 = .ok (.aload_n 0, 1) := by decide +kernel
theorem dX11_count_105 : decode cX11_count 105 = .ok (.getfield 54, 3) := by decide +kernel
theorem dX11_count_108 : decode cX11_count 108 = .ok (.getfield 163, 3) := by decide +kernel
theorem dX11_count_111 : decode cX11_count 111 = .ok (.iconst 2, 1) := by decide +kernel
theorem dX11_count_112 : decode cX11_count 112 = .ok (.iaload, 1) := by decide +kernel
theorem dX11_count_113 : decode cX11_count 113 = .ok (.ireturn, 1) := by decide +kernel
theorem dX11_count_114 : decode cX11_count 114 = .ok (.aload_n 0, 1) := by decide +kernel
theorem dX11_count_115 : decode cX11_count 115 = .ok (.getfield 54, 3) := by decide +kernel
theorem dX11_count_118 : decode cX11_count 118 = .ok (.getfield 163, 3) := by decide +kernel
theorem dX11_count_121 : decode cX11_count 121 = .ok (.iconst 3, 1) := by decide +kernel
theorem dX11_count_122 : decode cX11_count 122 = .ok (.iaload, 1) := by decide +kernel
theorem dX11_count_123 : decode cX11_count 123 = .ok (.ireturn, 1) := by decide +kernel
theorem dX11_count_124 : decode cX11_count 124 = .ok (.aload_n 0, 1) := by decide +kernel
theorem dX11_count_125 : decode cX11_count 125 = .ok (.getfield 19, 3) := by decide +kernel
theorem dX11_count_128 : decode cX11_count 128 = .ok (.getfield 220, 3) := by decide +kernel
theorem dX11_count_131 : decode cX11_count 131 = .ok (.ireturn, 1) := by decide +kernel
theorem dX11_count_132 : decode cX11_count 132 = .ok (.aload_n 0, 1) := by decide +kernel
theorem dX11_count_133 : decode cX11_count 133 = .ok (.getfield 19, 3) := by decide +kernel
theorem dX11_count_136 : decode cX11_count 136 = .ok (.getfield 236, 3) := by decide +kernel
theorem dX11_count_139 : decode cX11_count 139 = .ok (.ireturn, 1) := by decide +kernel
theorem dX11_count_140 : decode cX11_count 140 = .ok (.aload_n 0, 1) := by decide +kernel
theorem dX11_count_141 : decode cX11_count 141 = .ok (.getfield 40, 3) := by decide +kernel
theorem dX11_count_144 : decode cX11_count 144 = .ok (.getfield 332, 3) := by decide +kernel
theorem dX11_count_147 : decode cX11_count 147 = .ok (.ireturn, 1) := by decide +kernel
theorem dX11_count_148 : decode cX11_count 148 = .ok (.aload_n 0, 1) := by decide +kernel
theorem dX11_count_149 : decode cX11_count 149 = .ok (.getfield 40, 3) := by decide +kernel
theorem dX11_count_152 : decode cX11_count 152 = .ok (.getfield 335, 3) := by decide +kernel
theorem dX11_count_155 : decode cX11_count 155 = .ok (.ireturn, 1) := by decide +kernel
theorem dX11_count_156 : decode cX11_count 156 = .ok (.aload_n 0, 1) := by decide +kernel
theorem dX11_count_157 : decode cX11_count 157 = .ok (.getfield 10, 3) := by decide +kernel
theorem dX11_count_160 : decode cX11_count 160 = .ok (.getfield 82, 3) := by decide +kernel
theorem dX11_count_163 : decode cX11_count 163 = .ok (.ireturn, 1) := by decide +kernel
theorem dX11_count_164 : decode cX11_count 164 = .ok (.aload_n 0, 1) := by decide +kernel
theorem dX11_count_165 : decode cX11_count 165 = .ok (.getfield 19, 3) := by decide +kernel
theorem dX11_count_168 : decode cX11_count 168 = .ok (.getfield 265, 3) := by decide +kernel
theorem dX11_count_171 : decode cX11_count 171 = .ok (.ireturn, 1) := by decide +kernel
theorem dX11_count_172 : decode cX11_count 172 = .ok (.aload_n 0, 1) := by decide +kernel
theorem dX11_count_173 : decode cX11_count 173 = .ok (.getfield 33, 3) := by decide +kernel
theorem dX11_count_176 : decode cX11_count 176 = .ok (.getfield 313, 3) := by decide +kernel
theorem dX11_count_179 : decode cX11_count 179 = .ok (.ireturn, 1) := by decide +kernel
theorem dX11_count_180 : decode cX11_count 180 = .ok (.iconst (-1), 1) := by decide +kernel
theorem dX11_count_181 : decode cX11_count 181 = .ok (.ireturn, 1) := by decide +kernel
theorem dX11_isWithin_0 : decode cX11_isWithin 0 = .ok (.iload_n 0, 1) := by decide +kernel
theorem dX11_isWithin_1 : decode cX11_isWithin 1 = .ok (.ifCond .lt 12, 3) := by decide +kernel
theorem dX11_isWithin_4 : decode cX11_isWithin 4 = .ok (.iload_n 0, 1) := by decide +kernel
theorem dX11_isWithin_5 : decode cX11_isWithin 5 = .ok (.iload_n 1, 1) := by decide +kernel
theorem dX11_isWithin_6 : decode cX11_isWithin 6 = .ok (.if_icmp .ge 7, 3) := by decide +kernel
theorem dX11_isWithin_9 : decode cX11_isWithin 9 = .ok (.iconst 1, 1) := by decide +kernel
theorem dX11_isWithin_10 : decode cX11_isWithin 10 = .ok (.goto 4, 3) := by decide +kernel
theorem dX11_isWithin_13 : decode cX11_isWithin 13 = .ok (.iconst 0, 1) := by decide +kernel
theorem dX11_isWithin_14 : decode cX11_isWithin 14 = .ok (.ireturn, 1) := by decide +kernel
theorem dX11_needRange_0 : decode cX11_needRange 0 = .ok (.iload_n 0, 1) := by decide +kernel
theorem dX11_needRange_1 : decode cX11_needRange 1 = .ok (.iload_n 1, 1) := by decide +kernel
theorem dX11_needRange_2 : decode cX11_needRange 2 = .ok (.if_icmp .lt 8, 3) := by decide +kernel
theorem dX11_needRange_5 : decode cX11_needRange 5 = .ok (.iload_n 0, 1) := by decide +kernel
theorem dX11_needRange_6 : decode cX11_needRange 6 = .ok (.iload_n 2, 1) := by decide +kernel
theorem dX11_needRange_7 : decode cX11_needRange 7 = .ok (.if_icmp .le 11, 3) := by decide +kernel
theorem dX11_needRange_10 : decode cX11_needRange 10 = .ok (.new 338, 3) := by decide +kernel
theorem dX11_needRange_13 : decode cX11_needRange 13 = .ok (.dup, 1) := by decide +kernel
theorem dX11_needRange_14 : decode cX11_needRange 14 = .ok (.invokespecial 340, 3) := by decide +kernel
theorem dX11_needRange_17 : decode cX11_needRange 17 = .ok (.athrow, 1) := by decide +kernel
theorem dX11_needRange_18 : decode cX11_needRange 18 = .ok (.return_, 1) := by decide +kernel
theorem dX11_needPresence_0 : decode cX11_needPresence 0 = .ok (.iload_n 0, 1) := by decide +kernel
theorem dX11_needPresence_1 : decode cX11_needPresence 1 = .ok (.ifCond .ne 11, 3) := by decide +kernel
theorem dX11_needPresence_4 : decode cX11_needPresence 4 = .ok (.new 341, 3) := by decide +kernel
theorem dX11_needPresence_7 : decode cX11_needPresence 7 = .ok (.dup, 1) := by decide +kernel
theorem dX11_needPresence_8 : decode cX11_needPresence 8 = .ok (.invokespecial 343, 3) := by decide +kernel
theorem dX11_needPresence_11 : decode cX11_needPresence 11 = .ok (.athrow, 1) := by decide +kernel
theorem dX11_needPresence_12 : decode cX11_needPresence 12 = .ok (.return_, 1) := by decide +kernel
theorem dX11_needLeave_0 : decode cX11_needLeave 0 = .ok (.iload_n 0, 1) := by decide +kernel
theorem dX11_needLeave_1 : decode cX11_needLeave 1 = .ok (.ifCond .ne 11, 3) := by decide +kernel
theorem dX11_needLeave_4 : decode cX11_needLeave 4 = .ok (.new 344, 3) := by decide +kernel
theorem dX11_needLeave_7 : decode cX11_needLeave 7 = .ok (.dup, 1) := by decide +kernel
theorem dX11_needLeave_8 : decode cX11_needLeave 8 = .ok (.invokespecial 346, 3) := by decide +kernel
theorem dX11_needLeave_11 : decode cX11_needLeave 11 = .ok (.athrow, 1) := by decide +kernel
theorem dX11_needLeave_12 : decode cX11_needLeave 12 = .ok (.return_, 1) := by decide +kernel
theorem dX11_needRoom_0 : decode cX11_needRoom 0 = .ok (.iload_n 0, 1) := by decide +kernel
theorem dX11_needRoom_1 : decode cX11_needRoom 1 = .ok (.ifCond .ne 11, 3) := by decide +kernel
theorem dX11_needRoom_4 : decode cX11_needRoom 4 = .ok (.new 75, 3) := by decide +kernel
theorem dX11_needRoom_7 : decode cX11_needRoom 7 = .ok (.dup, 1) := by decide +kernel
theorem dX11_needRoom_8 : decode cX11_needRoom 8 = .ok (.invokespecial 77, 3) := by decide +kernel
theorem dX11_needRoom_11 : decode cX11_needRoom 11 = .ok (.athrow, 1) := by decide +kernel
theorem dX11_needRoom_12 : decode cX11_needRoom 12 = .ok (.return_, 1) := by decide +kernel
theorem dX11_needSure_0 : decode cX11_needSure 0 = .ok (.aload_n 0, 1) := by decide +kernel
theorem dX11_needSure_1 : decode cX11_needSure 1 = .ok (.getfield 54, 3) := by decide +kernel
theorem dX11_needSure_4 : decode cX11_needSure 4 = .ok (.iload_n 1, 1) := by decide +kernel
theorem dX11_needSure_5 : decode cX11_needSure 5 = .ok (.iconst 1, 1) := by decide +kernel
theorem dX11_needSure_6 : decode cX11_needSure 6 = .ok (.invokevirtual 139, 3) := by decide +kernel
theorem dX11_needSure_9 : decode cX11_needSure 9 = .ok (.ifCond .ne 7, 3) := by decide +kernel
theorem dX11_needSure_12 : decode cX11_needSure 12 = .ok (.iconst 1, 1) := by decide +kernel
theorem dX11_needSure_13 : decode cX11_needSure 13 = .ok (.goto 4, 3) := by decide +kernel
theorem dX11_needSure_16 : decode cX11_needSure 16 = .ok (.iconst 0, 1) := by decide +kernel
theorem dX11_needSure_17 : decode cX11_needSure 17 = .ok (.invokestatic 233, 3) := by decide +kernel
theorem dX11_needSure_20 : decode cX11_needSure 20 = .ok (.return_, 1) := by decide +kernel
theorem dX11_closedNumber_0 : decode cX11_closedNumber 0 = .ok (.aload_n 0, 1) := by decide +kernel
theorem dX11_closedNumber_1 : decode cX11_closedNumber 1 = .ok (.invokevirtual 347, 3) := by decide +kernel
theorem dX11_closedNumber_4 : decode cX11_closedNumber 4 = .ok (.ifCond .ne 7, 3) := by decide +kernel
theorem dX11_closedNumber_7 : decode cX11_closedNumber 7 = .ok (.iconst 1, 1) := by decide +kernel
theorem dX11_closedNumber_8 : decode cX11_closedNumber 8 = .ok (.goto 4, 3) := by decide +kernel
theorem dX11_closedNumber_11 : decode cX11_closedNumber 11 = .ok (.iconst 0, 1) := by decide +kernel
theorem dX11_closedNumber_12 : decode cX11_closedNumber 12 = .ok (.invokestatic 128, 3) := by decide +kernel
theorem dX11_closedNumber_15 : decode cX11_closedNumber 15 = .ok (.iload_n 1, 1) := by decide +kernel
theorem dX11_closedNumber_16 : decode cX11_closedNumber 16 = .ok (.ifCond .ne 10, 3) := by decide +kernel
theorem dX11_closedNumber_19 : decode cX11_closedNumber 19 = .ok (.aload_n 0, 1) := by decide +kernel
theorem dX11_closedNumber_20 : decode cX11_closedNumber 20 = .ok (.getfield 353, 3) := by decide +kernel
theorem dX11_closedNumber_23 : decode cX11_closedNumber 23 = .ok (.goto 7, 3) := by decide +kernel
theorem dX11_closedNumber_26 : decode cX11_closedNumber 26 = .ok (.aload_n 0, 1) := by decide +kernel
theorem dX11_closedNumber_27 : decode cX11_closedNumber 27 = .ok (.getfield 356, 3) := by decide +kernel
theorem dX11_closedNumber_30 : decode cX11_closedNumber 30 = .ok (.iload_n 2, 1) := by decide +kernel
theorem dX11_closedNumber_31 : decode cX11_closedNumber 31 = .ok (.invokevirtual 184, 3) := by decide +kernel
theorem dX11_closedNumber_34 : decode cX11_closedNumber 34 = .ok (.lreturn, 1) := by decide +kernel
theorem dX12_init_0 : decode cX12_init 0 = .ok (.aload_n 0, 1) := by decide +kernel
theorem dX12_init_1 : decode cX12_init 1 = .ok (.invokespecial 1, 3) := by decide +kernel
theorem dX12_init_4 : decode cX12_init 4 = .ok (.aload_n 0, 1) := by decide +kernel
theorem dX12_init_5 : decode cX12_init 5 = .ok (.sipush 4000, 3) := by decide +kernel
theorem dX12_init_8 : decode cX12_init 8 = .ok (.newarray .int, 2) := by decide +kernel
theorem dX12_init_10 : decode cX12_init 10 = .ok (.putfield 7, 3) := by decide +kernel
theorem dX12_init_13 : decode cX12_init 13 = .ok (.aload_n 0, 1) := by decide +kernel
theorem dX12_init_14 : decode cX12_init 14 = .ok (.sipush 320, 3) := by decide +kernel
theorem dX12_init_17 : decode cX12_init 17 = .ok (.newarray .long, 2) := by decide +kernel
theorem dX12_init_19 : decode cX12_init 19 = .ok (.putfield 13, 3) := by decide +kernel
theorem dX12_init_22 : decode cX12_init 22 = .ok (.aload_n 0, 1) := by decide +kernel
theorem dX12_init_23 : decode cX12_init 23 = .ok (.sipush 320, 3) := by decide +kernel
theorem dX12_init_26 : decode cX12_init 26 = .ok (.newarray .long, 2) := by decide +kernel
theorem dX12_init_28 : decode cX12_init 28 = .ok (.putfield 17, 3) := by decide +kernel
theorem dX12_init_31 : decode cX12_init 31 = .ok (.aload_n 0, 1) := by decide +kernel
theorem dX12_init_32 : decode cX12_init 32 = .ok (.sipush 320, 3) := by decide +kernel
theorem dX12_init_35 : decode cX12_init 35 = .ok (.newarray .boolean, 2) := by decide +kernel
theorem dX12_init_37 : decode cX12_init 37 = .ok (.putfield 20, 3) := by decide +kernel
theorem dX12_init_40 : decode cX12_init 40 = .ok (.aload_n 0, 1) := by decide +kernel
theorem dX12_init_41 : decode cX12_init 41 = .ok (.bipush 40, 2) := by decide +kernel
theorem dX12_init_43 : decode cX12_init 43 = .ok (.newarray .int, 2) := by decide +kernel
theorem dX12_init_45 : decode cX12_init 45 = .ok (.putfield 24, 3) := by decide +kernel
theorem dX12_init_48 : decode cX12_init 48 = .ok (.aload_n 0, 1) := by decide +kernel
theorem dX12_init_49 : decode cX12_init 49 = .ok (.sipush 160, 3) := by decide +kernel
theorem dX12_init_52 : decode cX12_init 52 = .ok (.newarray .int, 2) := by decide +kernel
theorem dX12_init_54 : decode cX12_init 54 = .ok (.putfield 27, 3) := by decide +kernel
theorem dX12_init_57 : decode cX12_init 57 = .ok (.aload_n 0, 1) := by decide +kernel
theorem dX12_init_58 : decode cX12_init 58 = .ok (.bipush 40, 2) := by decide +kernel
theorem dX12_init_60 : decode cX12_init 60 = .ok (.newarray .long, 2) := by decide +kernel
theorem dX12_init_62 : decode cX12_init 62 = .ok (.putfield 30, 3) := by decide +kernel
theorem dX12_init_65 : decode cX12_init 65 = .ok (.aload_n 0, 1) := by decide +kernel
theorem dX12_init_66 : decode cX12_init 66 = .ok (.bipush 40, 2) := by decide +kernel
theorem dX12_init_68 : decode cX12_init 68 = .ok (.newarray .long, 2) := by decide +kernel
theorem dX12_init_70 : decode cX12_init 70 = .ok (.putfield 33, 3) := by decide +kernel
theorem dX12_init_73 : decode cX12_init 73 = .ok (.aload_n 0, 1) := by decide +kernel
theorem dX12_init_74 : decode cX12_init 74 = .ok (.bipush 40, 2) := by decide +kernel
theorem dX12_init_76 : decode cX12_init 76 = .ok (.newarray .long, 2) := by decide +kernel
theorem dX12_init_78 : decode cX12_init 78 = .ok (.putfield 36, 3) := by decide +kernel
theorem dX12_init_81 : decode cX12_init 81 = .ok (.aload_n 0, 1) := by decide +kernel
theorem dX12_init_82 : decode cX12_init 82 = .ok (.bipush 40, 2) := by decide +kernel
theorem dX12_init_84 : decode cX12_init 84 = .ok (.newarray .long, 2) := by decide +kernel
theorem dX12_init_86 : decode cX12_init 86 = .ok (.putfield 39, 3) := by decide +kernel
theorem dX12_init_89 : decode cX12_init 89 = .ok (.aload_n 0, 1) := by decide +kernel
theorem dX12_init_90 : decode cX12_init 90 = .ok (.bipush 40, 2) := by decide +kernel
theorem dX12_init_92 : decode cX12_init 92 = .ok (.newarray .int, 2) := by decide +kernel
theorem dX12_init_94 : decode cX12_init 94 = .ok (.putfield 42, 3) := by decide +kernel
theorem dX12_init_97 : decode cX12_init 97 = .ok (.aload_n 0, 1) := by decide +kernel
theorem dX12_init_98 : decode cX12_init 98 = .ok (.bipush 40, 2) := by decide +kernel
theorem dX12_init_100 : decode cX12_init 100 = .ok (.newarray .int, 2) := by decide +kernel
theorem dX12_init_102 : decode cX12_init 102 = .ok (.putfield 45, 3) := by decide +kernel
theorem dX12_init_105 : decode cX12_init 105 = .ok (.aload_n 0, 1) := by decide +kernel
theorem dX12_init_106 : decode cX12_init 106 = .ok (.bipush 40, 2) := by decide +kernel
theorem dX12_init_108 : decode cX12_init 108 = .ok (.newarray .int, 2) := by decide +kernel
theorem dX12_init_110 : decode cX12_init 110 = .ok (.putfield 48, 3) := by decide +kernel
theorem dX12_init_113 : decode cX12_init 113 = .ok (.aload_n 0, 1) := by decide +kernel
theorem dX12_init_114 : decode cX12_init 114 = .ok (.bipush 40, 2) := by decide +kernel
theorem dX12_init_116 : decode cX12_init 116 = .ok (.newarray .int, 2) := by decide +kernel
theorem dX12_init_118 : decode cX12_init 118 = .ok (.putfield 51, 3) := by decide +kernel
theorem dX12_init_121 : decode cX12_init 121 = .ok (.aload_n 0, 1) := by decide +kernel
theorem dX12_init_122 : decode cX12_init 122 = .ok (.bipush 40, 2) := by decide +kernel
theorem dX12_init_124 : decode cX12_init 124 = .ok (.newarray .int, 2) := by decide +kernel
theorem dX12_init_126 : decode cX12_init 126 = .ok (.putfield 54, 3) := by decide +kernel
theorem dX12_init_129 : decode cX12_init 129 = .ok (.aload_n 0, 1) := by decide +kernel
theorem dX12_init_130 : decode cX12_init 130 = .ok (.sipush 320, 3) := by decide +kernel
theorem dX12_init_133 : decode cX12_init 133 = .ok (.newarray .int, 2) := by decide +kernel
theorem dX12_init_135 : decode cX12_init 135 = .ok (.putfield 57, 3) := by decide +kernel
theorem dX12_init_138 : decode cX12_init 138 = .ok (.aload_n 0, 1) := by decide +kernel
theorem dX12_init_139 : decode cX12_init 139 = .ok (.bipush 40, 2) := by decide +kernel
theorem dX12_init_141 : decode cX12_init 141 = .ok (.newarray .int, 2) := by decide +kernel
theorem dX12_init_143 : decode cX12_init 143 = .ok (.putfield 60, 3) := by decide +kernel
theorem dX12_init_146 : decode cX12_init 146 = .ok (.aload_n 0, 1) := by decide +kernel
theorem dX12_init_147 : decode cX12_init 147 = .ok (.iconst 4, 1) := by decide +kernel
theorem dX12_init_148 : decode cX12_init 148 = .ok (.newarray .int, 2) := by decide +kernel
theorem dX12_init_150 : decode cX12_init 150 = .ok (.putfield 63, 3) := by decide +kernel
theorem dX12_init_153 : decode cX12_init 153 = .ok (.aload_n 0, 1) := by decide +kernel
theorem dX12_init_154 : decode cX12_init 154 = .ok (.bipush 40, 2) := by decide +kernel
theorem dX12_init_156 : decode cX12_init 156 = .ok (.newarray .int, 2) := by decide +kernel
theorem dX12_init_158 : decode cX12_init 158 = .ok (.putfield 66, 3) := by decide +kernel
theorem dX12_init_161 : decode cX12_init 161 = .ok (.aload_n 0, 1) := by decide +kernel
theorem dX12_init_162 : decode cX12_init 162 = .ok (.bipush 40, 2) := by decide +kernel
theorem dX12_init_164 : decode cX12_init 164 = .ok (.newarray .int, 2) := by decide +kernel
theorem dX12_init_166 : decode cX12_init 166 = .ok (.putfield 69, 3) := by decide +kernel
theorem dX12_init_169 : decode cX12_init 169 = .ok (.aload_n 0, 1) := by decide +kernel
theorem dX12_init_170 : decode cX12_init 170 = .ok (.bipush 40, 2) := by decide +kernel
theorem dX12_init_172 : decode cX12_init 172 = .ok (.newarray .int, 2) := by decide +kernel
theorem dX12_init_174 : decode cX12_init 174 = .ok (.putfield 72, 3) := by decide +kernel
theorem dX12_init_177 : decode cX12_init 177 = .ok (.aload_n 0, 1) := by decide +kernel
theorem dX12_init_178 : decode cX12_init 178 = .ok (.sipush 460, 3) := by decide +kernel
theorem dX12_init_181 : decode cX12_init 181 = .ok (.newarray .int, 2) := by decide +kernel
theorem dX12_init_183 : decode cX12_init 183 = .ok (.putfield 75, 3) := by decide +kernel
theorem dX12_init_186 : decode cX12_init 186 = .ok (.aload_n 0, 1) := by decide +kernel
theorem dX12_init_187 : decode cX12_init 187 = .ok (.sipush 460, 3) := by decide +kernel
theorem dX12_init_190 : decode cX12_init 190 = .ok (.newarray .int, 2) := by decide +kernel
theorem dX12_init_192 : decode cX12_init 192 = .ok (.putfield 78, 3) := by decide +kernel
theorem dX12_init_195 : decode cX12_init 195 = .ok (.aload_n 0, 1) := by decide +kernel
theorem dX12_init_196 : decode cX12_init 196 = .ok (.bipush 40, 2) := by decide +kernel
theorem dX12_init_198 : decode cX12_init 198 = .ok (.newarray .int, 2) := by decide +kernel
theorem dX12_init_200 : decode cX12_init 200 = .ok (.putfield 81, 3) := by decide +kernel
theorem dX12_init_203 : decode cX12_init 203 = .ok (.aload_n 0, 1) := by decide +kernel
theorem dX12_init_204 : decode cX12_init 204 = .ok (.sipush 160, 3) := by decide +kernel
theorem dX12_init_207 : decode cX12_init 207 = .ok (.newarray .int, 2) := by decide +kernel
theorem dX12_init_209 : decode cX12_init 209 = .ok (.putfield 84, 3) := by decide +kernel
theorem dX12_init_212 : decode cX12_init 212 = .ok (.aload_n 0, 1) := by decide +kernel
theorem dX12_init_213 : decode cX12_init 213 = .ok (.sipush 160, 3) := by decide +kernel
theorem dX12_init_216 : decode cX12_init 216 = .ok (.newarray .int, 2) := by decide +kernel
theorem dX12_init_218 : decode cX12_init 218 = .ok (.putfield 87, 3) := by decide +kernel
theorem dX12_init_221 : decode cX12_init 221 = .ok (.aload_n 0, 1) := by decide +kernel
theorem dX12_init_222 : decode cX12_init 222 = .ok (.sipush 160, 3) := by decide +kernel
theorem dX12_init_225 : decode cX12_init 225 = .ok (.newarray .long, 2) := by decide +kernel
theorem dX12_init_227 : decode cX12_init 227 = .ok (.putfield 90, 3) := by decide +kernel
theorem dX12_init_230 : decode cX12_init 230 = .ok (.aload_n 0, 1) := by decide +kernel
theorem dX12_init_231 : decode cX12_init 231 = .ok (.bipush 120, 2) := by decide +kernel
theorem dX12_init_233 : decode cX12_init 233 = .ok (.newarray .int, 2) := by decide +kernel
theorem dX12_init_235 : decode cX12_init 235 = .ok (.putfield 93, 3) := by decide +kernel
theorem dX12_init_238 : decode cX12_init 238 = .ok (.aload_n 0, 1) := by decide +kernel
theorem dX12_init_239 : decode cX12_init 239 = .ok (.bipush 40, 2) := by decide +kernel
theorem dX12_init_241 : decode cX12_init 241 = .ok (.newarray .int, 2) := by decide +kernel
theorem dX12_init_243 : decode cX12_init 243 = .ok (.putfield 96, 3) := by decide +kernel
theorem dX12_init_246 : decode cX12_init 246 = .ok (.aload_n 0, 1) := by decide +kernel
theorem dX12_init_247 : decode cX12_init 247 = .ok (.sipush 160, 3) := by decide +kernel
theorem dX12_init_250 : decode cX12_init 250 = .ok (.newarray .int, 2) := by decide +kernel
theorem dX12_init_252 : decode cX12_init 252 = .ok (.putfield 99, 3) := by decide +kernel
theorem dX12_init_255 : decode cX12_init 255 = .ok (.aload_n 0, 1) := by decide +kernel
theorem dX12_init_256 : decode cX12_init 256 = .ok (.bipush 40, 2) := by decide +kernel
theorem dX12_init_258 : decode cX12_init 258 = .ok (.newarray .int, 2) := by decide +kernel
theorem dX12_init_260 : decode cX12_init 260 = .ok (.putfield 102, 3) := by decide +kernel
theorem dX12_init_263 : decode cX12_init 263 = .ok (.aload_n 0, 1) := by decide +kernel
theorem dX12_init_264 : decode cX12_init 264 = .ok (.bipush 40, 2) := by decide +kernel
theorem dX12_init_266 : decode cX12_init 266 = .ok (.newarray .boolean, 2) := by decide +kernel
theorem dX12_init_268 : decode cX12_init 268 = .ok (.putfield 105, 3) := by decide +kernel
theorem dX12_init_271 : decode cX12_init 271 = .ok (.aload_n 0, 1) := by decide +kernel
theorem dX12_init_272 : decode cX12_init 272 = .ok (.sipush 1400, 3) := by decide +kernel
theorem dX12_init_275 : decode cX12_init 275 = .ok (.newarray .int, 2) := by decide +kernel
theorem dX12_init_277 : decode cX12_init 277 = .ok (.putfield 108, 3) := by decide +kernel
theorem dX12_init_280 : decode cX12_init 280 = .ok (.aload_n 0, 1) := by decide +kernel
theorem dX12_init_281 : decode cX12_init 281 = .ok (.sipush 1400, 3) := by decide +kernel
theorem dX12_init_284 : decode cX12_init 284 = .ok (.newarray .int, 2) := by decide +kernel
theorem dX12_init_286 : decode cX12_init 286 = .ok (.putfield 111, 3) := by decide +kernel
theorem dX12_init_289 : decode cX12_init 289 = .ok (.aload_n 0, 1) := by decide +kernel
theorem dX12_init_290 : decode cX12_init 290 = .ok (.sipush 1024, 3) := by decide +kernel
theorem dX12_init_293 : decode cX12_init 293 = .ok (.newarray .boolean, 2) := by decide +kernel
theorem dX12_init_295 : decode cX12_init 295 = .ok (.putfield 114, 3) := by decide +kernel
theorem dX12_init_298 : decode cX12_init 298 = .ok (.aload_n 0, 1) := by decide +kernel
theorem dX12_init_299 : decode cX12_init 299 = .ok (.bipush 24, 2) := by decide +kernel
theorem dX12_init_301 : decode cX12_init 301 = .ok (.newarray .int, 2) := by decide +kernel
theorem dX12_init_303 : decode cX12_init 303 = .ok (.putfield 117, 3) := by decide +kernel
theorem dX12_init_306 : decode cX12_init 306 = .ok (.aload_n 0, 1) := by decide +kernel
theorem dX12_init_307 : decode cX12_init 307 = .ok (.bipush 24, 2) := by decide +kernel
theorem dX12_init_309 : decode cX12_init 309 = .ok (.newarray .int, 2) := by decide +kernel
theorem dX12_init_311 : decode cX12_init 311 = .ok (.putfield 120, 3) := by decide +kernel
theorem dX12_init_314 : decode cX12_init 314 = .ok (.aload_n 0, 1) := by decide +kernel
theorem dX12_init_315 : decode cX12_init 315 = .ok (.bipush 20, 2) := by decide +kernel
theorem dX12_init_317 : decode cX12_init 317 = .ok (.newarray .int, 2) := by decide +kernel
theorem dX12_init_319 : decode cX12_init 319 = .ok (.putfield 123, 3) := by decide +kernel
theorem dX12_init_322 : decode cX12_init 322 = .ok (.aload_n 0, 1) := by decide +kernel
theorem dX12_init_323 : decode cX12_init 323 = .ok (.bipush 20, 2) := by decide +kernel
theorem dX12_init_325 : decode cX12_init 325 = .ok (.newarray .int, 2) := by decide +kernel
theorem dX12_init_327 : decode cX12_init 327 = .ok (.putfield 126, 3) := by decide +kernel
theorem dX12_init_330 : decode cX12_init 330 = .ok (.aload_n 0, 1) := by decide +kernel
theorem dX12_init_331 : decode cX12_init 331 = .ok (.bipush 20, 2) := by decide +kernel
theorem dX12_init_333 : decode cX12_init 333 = .ok (.newarray .int, 2) := by decide +kernel
theorem dX12_init_335 : decode cX12_init 335 = .ok (.putfield 129, 3) := by decide +kernel
theorem dX12_init_338 : decode cX12_init 338 = .ok (.aload_n 0, 1) := by decide +kernel
theorem dX12_init_339 : decode cX12_init 339 = .ok (.bipush 20, 2) := by decide +kernel
theorem dX12_init_341 : decode cX12_init 341 = .ok (.newarray .boolean, 2) := by decide +kernel
theorem dX12_init_343 : decode cX12_init 343 = .ok (.putfield 132, 3) := by decide +kernel
theorem dX12_init_346 : decode cX12_init 346 = .ok (.aload_n 0, 1) := by decide +kernel
theorem dX12_init_347 : decode cX12_init 347 = .ok (.bipush 12, 2) := by decide +kernel
theorem dX12_init_349 : decode cX12_init 349 = .ok (.newarray .int, 2) := by decide +kernel
theorem dX12_init_351 : decode cX12_init 351 = .ok (.putfield 135, 3) := by decide +kernel
theorem dX12_init_354 : decode cX12_init 354 = .ok (.aload_n 0, 1) := by decide +kernel
theorem dX12_init_355 : decode cX12_init 355 = .ok (.bipush 12, 2) := by decide +kernel
theorem dX12_init_357 : decode cX12_init 357 = .ok (.newarray .int, 2) := by decide +kernel
theorem dX12_init_359 : decode cX12_init 359 = .ok (.putfield 138, 3) := by decide +kernel
theorem dX12_init_362 : decode cX12_init 362 = .ok (.aload_n 0, 1) := by decide +kernel
theorem dX12_init_363 : decode cX12_init 363 = .ok (.bipush 12, 2) := by decide +kernel
theorem dX12_init_365 : decode cX12_init 365 = .ok (.newarray .int, 2) := by decide +kernel
theorem dX12_init_367 : decode cX12_init 367 = .ok (.putfield 141, 3) := by decide +kernel
theorem dX12_init_370 : decode cX12_init 370 = .ok (.aload_n 0, 1) := by decide +kernel
theorem dX12_init_371 : decode cX12_init 371 = .ok (.sipush 416, 3) := by decide +kernel
theorem dX12_init_374 : decode cX12_init 374 = .ok (.newarray .long, 2) := by decide +kernel
theorem dX12_init_376 : decode cX12_init 376 = .ok (.putfield 144, 3) := by decide +kernel
theorem dX12_init_379 : decode cX12_init 379 = .ok (.aload_n 0, 1) := by decide +kernel
theorem dX12_init_380 : decode cX12_init 380 = .ok (.sipush 416, 3) := by decide +kernel
theorem dX12_init_383 : decode cX12_init 383 = .ok (.newarray .long, 2) := by decide +kernel
theorem dX12_init_385 : decode cX12_init 385 = .ok (.putfield 147, 3) := by decide +kernel
theorem dX12_init_388 : decode cX12_init 388 = .ok (.aload_n 0, 1) := by decide +kernel
theorem dX12_init_389 : decode cX12_init 389 = .ok (.bipush 12, 2) := by decide +kernel
theorem dX12_init_391 : decode cX12_init 391 = .ok (.newarray .int, 2) := by decide +kernel
theorem dX12_init_393 : decode cX12_init 393 = .ok (.putfield 150, 3) := by decide +kernel
theorem dX12_init_396 : decode cX12_init 396 = .ok (.aload_n 0, 1) := by decide +kernel
theorem dX12_init_397 : decode cX12_init 397 = .ok (.sipush 1200, 3) := by decide +kernel
theorem dX12_init_400 : decode cX12_init 400 = .ok (.newarray .int, 2) := by decide +kernel
theorem dX12_init_402 : decode cX12_init 402 = .ok (.putfield 153, 3) := by decide +kernel
theorem dX12_init_405 : decode cX12_init 405 = .ok (.aload_n 0, 1) := by decide +kernel
theorem dX12_init_406 : decode cX12_init 406 = .ok (.bipush 30, 2) := by decide +kernel
theorem dX12_init_408 : decode cX12_init 408 = .ok (.newarray .int, 2) := by decide +kernel
theorem dX12_init_410 : decode cX12_init 410 = .ok (.putfield 156, 3) := by decide +kernel
theorem dX12_init_413 : decode cX12_init 413 = .ok (.aload_n 0, 1) := by decide +kernel
theorem dX12_init_414 : decode cX12_init 414 = .ok (.bipush 30, 2) := by decide +kernel
theorem dX12_init_416 : decode cX12_init 416 = .ok (.newarray .int, 2) := by decide +kernel
theorem dX12_init_418 : decode cX12_init 418 = .ok (.putfield 159, 3) := by decide +kernel
theorem dX12_init_421 : decode cX12_init 421 = .ok (.aload_n 0, 1) := by decide +kernel
theorem dX12_init_422 : decode cX12_init 422 = .ok (.bipush 30, 2) := by decide +kernel
theorem dX12_init_424 : decode cX12_init 424 = .ok (.newarray .long, 2) := by decide +kernel
theorem dX12_init_426 : decode cX12_init 426 = .ok (.putfield 162, 3) := by decide +kernel
theorem dX12_init_429 : decode cX12_init 429 = .ok (.aload_n 0, 1) := by decide +kernel
theorem dX12_init_430 : decode cX12_init 430 = .ok (.bipush 30, 2) := by decide +kernel
theorem dX12_init_432 : decode cX12_init 432 = .ok (.newarray .long, 2) := by decide +kernel
theorem dX12_init_434 : decode cX12_init 434 = .ok (.putfield 165, 3) := by decide +kernel
theorem dX12_init_437 : decode cX12_init 437 = .ok (.aload_n 0, 1) := by decide +kernel
theorem dX12_init_438 : decode cX12_init 438 = .ok (.bipush 30, 2) := by decide +kernel
theorem dX12_init_440 : decode cX12_init 440 = .ok (.newarray .int, 2) := by decide +kernel
theorem dX12_init_442 : decode cX12_init 442 = .ok (.putfield 168, 3) := by decide +kernel
theorem dX12_init_445 : decode cX12_init 445 = .ok (.aload_n 0, 1) := by decide +kernel
theorem dX12_init_446 : decode cX12_init 446 = .ok (.bipush 30, 2) := by decide +kernel
theorem dX12_init_448 : decode cX12_init 448 = .ok (.newarray .int, 2) := by decide +kernel
theorem dX12_init_450 : decode cX12_init 450 = .ok (.putfield 171, 3) := by decide +kernel
theorem dX12_init_453 : decode cX12_init 453 = .ok (.aload_n 0, 1) := by decide +kernel
theorem dX12_init_454 : decode cX12_init 454 = .ok (.bipush 30, 2) := by decide +kernel
theorem dX12_init_456 : decode cX12_init 456 = .ok (.newarray .int, 2) := by decide +kernel
theorem dX12_init_458 : decode cX12_init 458 = .ok (.putfield 174, 3) := by decide +kernel
theorem dX12_init_461 : decode cX12_init 461 = .ok (.aload_n 0, 1) := by decide +kernel
theorem dX12_init_462 : decode cX12_init 462 = .ok (.bipush 30, 2) := by decide +kernel
theorem dX12_init_464 : decode cX12_init 464 = .ok (.newarray .long, 2) := by decide +kernel
theorem dX12_init_466 : decode cX12_init 466 = .ok (.putfield 177, 3) := by decide +kernel
theorem dX12_init_469 : decode cX12_init 469 = .ok (.aload_n 0, 1) := by decide +kernel
theorem dX12_init_470 : decode cX12_init 470 = .ok (.bipush 30, 2) := by decide +kernel
theorem dX12_init_472 : decode cX12_init 472 = .ok (.newarray .long, 2) := by decide +kernel
theorem dX12_init_474 : decode cX12_init 474 = .ok (.putfield 180, 3) := by decide +kernel
theorem dX12_init_477 : decode cX12_init 477 = .ok (.aload_n 0, 1) := by decide +kernel
theorem dX12_init_478 : decode cX12_init 478 = .ok (.bipush 30, 2) := by decide +kernel
theorem dX12_init_480 : decode cX12_init 480 = .ok (.newarray .int, 2) := by decide +kernel
theorem dX12_init_482 : decode cX12_init 482 = .ok (.putfield 183, 3) := by decide +kernel
theorem dX12_init_485 : decode cX12_init 485 = .ok (.aload_n 0, 1) := by decide +kernel
theorem dX12_init_486 : decode cX12_init 486 = .ok (.bipush 8, 2) := by decide +kernel
theorem dX12_init_488 : decode cX12_init 488 = .ok (.newarray .int, 2) := by decide +kernel
theorem dX12_init_490 : decode cX12_init 490 = .ok (.putfield 186, 3) := by decide +kernel
theorem dX12_init_493 : decode cX12_init 493 = .ok (.aload_n 0, 1) := by decide +kernel
theorem dX12_init_494 : decode cX12_init 494 = .ok (.sipush 192, 3) := by decide +kernel
theorem dX12_init_497 : decode cX12_init 497 = .ok (.newarray .long, 2) := by decide +kernel
theorem dX12_init_499 : decode cX12_init 499 = .ok (.putfield 189, 3) := by decide +kernel
theorem dX12_init_502 : decode cX12_init 502 = .ok (.aload_n 0, 1) := by decide +kernel
theorem dX12_init_503 : decode cX12_init 503 = .ok (.sipush 192, 3) := by decide +kernel
theorem dX12_init_506 : decode cX12_init 506 = .ok (.newarray .long, 2) := by decide +kernel
theorem dX12_init_508 : decode cX12_init 508 = .ok (.putfield 192, 3) := by decide +kernel
theorem dX12_init_511 : decode cX12_init 511 = .ok (.aload_n 0, 1) := by decide +kernel
theorem dX12_init_512 : decode cX12_init 512 = .ok (.sipush 200, 3) := by decide +kernel
theorem dX12_init_515 : decode cX12_init 515 = .ok (.newarray .int, 2) := by decide +kernel
theorem dX12_init_517 : decode cX12_init 517 = .ok (.putfield 195, 3) := by decide +kernel
theorem dX12_init_520 : decode cX12_init 520 = .ok (.aload_n 0, 1) := by decide +kernel
theorem dX12_init_521 : decode cX12_init 521 = .ok (.bipush 36, 2) := by decide +kernel
theorem dX12_init_523 : decode cX12_init 523 = .ok (.newarray .boolean, 2) := by decide +kernel
theorem dX12_init_525 : decode cX12_init 525 = .ok (.putfield 198, 3) := by decide +kernel
theorem dX12_init_528 : decode cX12_init 528 = .ok (.aload_n 0, 1) := by decide +kernel
theorem dX12_init_529 : decode cX12_init 529 = .ok (.bipush 6, 2) := by decide +kernel
theorem dX12_init_531 : decode cX12_init 531 = .ok (.newarray .int, 2) := by decide +kernel
theorem dX12_init_533 : decode cX12_init 533 = .ok (.putfield 201, 3) := by decide +kernel
theorem dX12_init_536 : decode cX12_init 536 = .ok (.aload_n 0, 1) := by decide +kernel
theorem dX12_init_537 : decode cX12_init 537 = .ok (.bipush 40, 2) := by decide +kernel
theorem dX12_init_539 : decode cX12_init 539 = .ok (.newarray .int, 2) := by decide +kernel
theorem dX12_init_541 : decode cX12_init 541 = .ok (.putfield 204, 3) := by decide +kernel
theorem dX12_init_544 : decode cX12_init 544 = .ok (.aload_n 0, 1) := by decide +kernel
theorem dX12_init_545 : decode cX12_init 545 = .ok (.bipush 40, 2) := by decide +kernel
theorem dX12_init_547 : decode cX12_init 547 = .ok (.newarray .int, 2) := by decide +kernel
theorem dX12_init_549 : decode cX12_init 549 = .ok (.putfield 207, 3) := by decide +kernel
theorem dX12_init_552 : decode cX12_init 552 = .ok (.aload_n 0, 1) := by decide +kernel
theorem dX12_init_553 : decode cX12_init 553 = .ok (.bipush 40, 2) := by decide +kernel
theorem dX12_init_555 : decode cX12_init 555 = .ok (.newarray .int, 2) := by decide +kernel
theorem dX12_init_557 : decode cX12_init 557 = .ok (.putfield 210, 3) := by decide +kernel
theorem dX12_init_560 : decode cX12_init 560 = .ok (.aload_n 0, 1) := by decide +kernel
theorem dX12_init_561 : decode cX12_init 561 = .ok (.bipush 40, 2) := by decide +kernel
theorem dX12_init_563 : decode cX12_init 563 = .ok (.newarray .int, 2) := by decide +kernel
theorem dX12_init_565 : decode cX12_init 565 = .ok (.putfield 213, 3) := by decide +kernel
theorem dX12_init_568 : decode cX12_init 568 = .ok (.aload_n 0, 1) := by decide +kernel
theorem dX12_init_569 : decode cX12_init 569 = .ok (.bipush 40, 2) := by decide +kernel
theorem dX12_init_571 : decode cX12_init 571 = .ok (.newarray .boolean, 2) := by decide +kernel
theorem dX12_init_573 : decode cX12_init 573 = .ok (.putfield 216, 3) := by decide +kernel
theorem dX12_init_576 : decode cX12_init 576 = .ok (.aload_n 0, 1) := by decide +kernel
theorem dX12_init_577 : decode cX12_init 577 = .ok (.bipush 40, 2) := by decide +kernel
theorem dX12_init_579 : decode cX12_init 579 = .ok (.newarray .long, 2) := by decide +kernel
theorem dX12_init_581 : decode cX12_init 581 = .ok (.putfield 219, 3) := by decide +kernel
theorem dX12_init_584 : decode cX12_init 584 = .ok (.aload_n 0, 1) := by decide +kernel
theorem dX12_init_585 : decode cX12_init 585 = .ok (.sipush 300, 3) := by decide +kernel
theorem dX12_init_588 : decode cX12_init 588 = .ok (.newarray .int, 2) := by decide +kernel
theorem dX12_init_590 : decode cX12_init 590 = .ok (.putfield 222, 3) := by decide +kernel
theorem dX12_init_593 : decode cX12_init 593 = .ok (.aload_n 0, 1) := by decide +kernel
theorem dX12_init_594 : decode cX12_init 594 = .ok (.bipush 40, 2) := by decide +kernel
theorem dX12_init_596 : decode cX12_init 596 = .ok (.newarray .int, 2) := by decide +kernel
theorem dX12_init_598 : decode cX12_init 598 = .ok (.putfield 225, 3) := by decide +kernel
theorem dX12_init_601 : decode cX12_init 601 = .ok (.aload_n 0, 1) := by decide +kernel
theorem dX12_init_602 : decode cX12_init 602 = .ok (.bipush 40, 2) := by decide +kernel
theorem dX12_init_604 : decode cX12_init 604 = .ok (.newarray .int, 2) := by decide +kernel
theorem dX12_init_606 : decode cX12_init 606 = .ok (.putfield 228, 3) := by decide +kernel
theorem dX12_init_609 : decode cX12_init 609 = .ok (.aload_n 0, 1) := by decide +kernel
theorem dX12_init_610 : decode cX12_init 610 = .ok (.bipush 40, 2) := by decide +kernel
theorem dX12_init_612 : decode cX12_init 612 = .ok (.newarray .int, 2) := by decide +kernel
theorem dX12_init_614 : decode cX12_init 614 = .ok (.putfield 231, 3) := by decide +kernel
theorem dX12_init_617 : decode cX12_init 617 = .ok (.aload_n 0, 1) := by decide +kernel
theorem dX12_init_618 : decode cX12_init 618 = .ok (.bipush 40, 2) := by decide +kernel
theorem dX12_init_620 : decode cX12_init 620 = .ok (.newarray .int, 2) := by decide +kernel
theorem dX12_init_622 : decode cX12_init 622 = .ok (.putfield 234, 3) := by decide +kernel
theorem dX12_init_625 : decode cX12_init 625 = .ok (.aload_n 0, 1) := by decide +kernel
theorem dX12_init_626 : decode cX12_init 626 = .ok (.bipush 40, 2) := by decide +kernel
theorem dX12_init_628 : decode cX12_init 628 = .ok (.newarray .boolean, 2) := by decide +kernel
theorem dX12_init_630 : decode cX12_init 630 = .ok (.putfield 237, 3) := by decide +kernel
theorem dX12_init_633 : decode cX12_init 633 = .ok (.aload_n 0, 1) := by decide +kernel
theorem dX12_init_634 : decode cX12_init 634 = .ok (.bipush 40, 2) := by decide +kernel
theorem dX12_init_636 : decode cX12_init 636 = .ok (.newarray .long, 2) := by decide +kernel
theorem dX12_init_638 : decode cX12_init 638 = .ok (.putfield 240, 3) := by decide +kernel
theorem dX12_init_641 : decode cX12_init 641 = .ok (.return_, 1) := by decide +kernel
theorem dX12_thrown_0 : decode cX12_thrown 0 = .ok (.aload_n 0, 1) := by decide +kernel
theorem dX12_thrown_1 : decode cX12_thrown 1 = .ok (.getfield 243, 3) := by decide +kernel
theorem dX12_thrown_4 : decode cX12_thrown 4 = .ok (.ireturn, 1) := by decide +kernel
theorem dX12_in_0 : decode cX12_in 0 = .ok (.lload_n 0, 1) := by decide +kernel
theorem dX12_in_1 : decode cX12_in 1 = .ok (.lload_n 2, 1) := by decide +kernel
theorem dX12_in_2 : decode cX12_in 2 = .ok (.lcmp, 1) := by decide +kernel
theorem dX12_in_3 : decode cX12_in 3 = .ok (.ifCond .lt 14, 3) := by decide +kernel
theorem dX12_in_6 : decode cX12_in 6 = .ok (.lload_n 0, 1) := by decide +kernel
theorem dX12_in_7 : decode cX12_in 7 = .ok (.lload 4, 2) := by decide +kernel
theorem dX12_in_9 : decode cX12_in 9 = .ok (.lcmp, 1) := by decide +kernel
theorem dX12_in_10 : decode cX12_in 10 = .ok (.ifCond .gt 7, 3) := by decide +kernel
theorem dX12_in_13 : decode cX12_in 13 = .ok (.iconst 1, 1) := by decide +kernel
theorem dX12_in_14 : decode cX12_in 14 = .ok (.goto 4, 3) := by decide +kernel
theorem dX12_in_17 : decode cX12_in 17 = .ok (.iconst 0, 1) := by decide +kernel
theorem dX12_in_18 : decode cX12_in 18 = .ok (.ireturn, 1) := by decide +kernel
theorem dX12_size_0 : decode cX12_size 0 = .ok (.lload_n 0, 1) := by decide +kernel
theorem dX12_size_1 : decode cX12_size 1 = .ok (.lconst 0, 1) := by decide +kernel
theorem dX12_size_2 : decode cX12_size 2 = .ok (.lcmp, 1) := by decide +kernel
theorem dX12_size_3 : decode cX12_size 3 = .ok (.ifCond .ge 8, 3) := by decide +kernel
theorem dX12_size_6 : decode cX12_size 6 = .ok (.lload_n 0, 1) := by decide +kernel
theorem dX12_size_7 : decode cX12_size 7 = .ok (.lneg, 1) := by decide +kernel
theorem dX12_size_8 : decode cX12_size 8 = .ok (.goto 4, 3) := by decide +kernel
theorem dX12_size_11 : decode cX12_size 11 = .ok (.lload_n 0, 1) := by decide +kernel
theorem dX12_size_12 : decode cX12_size 12 = .ok (.lreturn, 1) := by decide +kernel
theorem dX12_down_0 : decode cX12_down 0 = .ok (.lload_n 0, 1) := by decide +kernel
theorem dX12_down_1 : decode cX12_down 1 = .ok (.lload_n 2, 1) := by decide +kernel
theorem dX12_down_2 : decode cX12_down 2 = .ok (.ldiv, 1) := by decide +kernel
theorem dX12_down_3 : decode cX12_down 3 = .ok (.lstore 4, 2) := by decide +kernel
theorem dX12_down_5 : decode cX12_down 5 = .ok (.lload_n 0, 1) := by decide +kernel
theorem dX12_down_6 : decode cX12_down 6 = .ok (.lload_n 2, 1) := by decide +kernel
theorem dX12_down_7 : decode cX12_down 7 = .ok (.lrem, 1) := by decide +kernel
theorem dX12_down_8 : decode cX12_down 8 = .ok (.lconst 0, 1) := by decide +kernel
theorem dX12_down_9 : decode cX12_down 9 = .ok (.lcmp, 1) := by decide +kernel
theorem dX12_down_10 : decode cX12_down 10 = .ok (.ifCond .eq 35, 3) := by decide +kernel
theorem dX12_down_13 : decode cX12_down 13 = .ok (.lload_n 0, 1) := by decide +kernel
theorem dX12_down_14 : decode cX12_down 14 = .ok (.lconst 0, 1) := by decide +kernel
theorem dX12_down_15 : decode cX12_down 15 = .ok (.lcmp, 1) := by decide +kernel
theorem dX12_down_16 : decode cX12_down 16 = .ok (.ifCond .ge 7, 3) := by decide +kernel
theorem dX12_down_19 : decode cX12_down 19 = .ok (.iconst 1, 1) := by decide +kernel
theorem dX12_down_20 : decode cX12_down 20 = .ok (.goto 4, 3) := by decide +kernel
theorem dX12_down_23 : decode cX12_down 23 = .ok (.iconst 0, 1) := by decide +kernel
theorem dX12_down_24 : decode cX12_down 24 = .ok (.lload_n 2, 1) := by decide +kernel
theorem dX12_down_25 : decode cX12_down 25 = .ok (.lconst 0, 1) := by decide +kernel
theorem dX12_down_26 : decode cX12_down 26 = .ok (.lcmp, 1) := by decide +kernel
theorem dX12_down_27 : decode cX12_down 27 = .ok (.ifCond .ge 7, 3) := by decide +kernel
theorem dX12_down_30 : decode cX12_down 30 = .ok (.iconst 1, 1) := by decide +kernel
theorem dX12_down_31 : decode cX12_down 31 = .ok (.goto 4, 3) := by decide +kernel
theorem dX12_down_34 : decode cX12_down 34 = .ok (.iconst 0, 1) := by decide +kernel
theorem dX12_down_35 : decode cX12_down 35 = .ok (.if_icmp .eq 10, 3) := by decide +kernel
theorem dX12_down_38 : decode cX12_down 38 = .ok (.lload 4, 2) := by decide +kernel
theorem dX12_down_40 : decode cX12_down 40 = .ok (.lconst 1, 1) := by decide +kernel
theorem dX12_down_41 : decode cX12_down 41 = .ok (.lsub, 1) := by decide +kernel
theorem dX12_down_42 : decode cX12_down 42 = .ok (.goto 5, 3) := by decide +kernel
theorem dX12_down_45 : decode cX12_down 45 = .ok (.lload 4, 2) := by decide +kernel
theorem dX12_down_47 : decode cX12_down 47 = .ok (.lreturn, 1) := by decide +kernel
theorem dX12_up_0 : decode cX12_up 0 = .ok (.lload_n 0, 1) := by decide +kernel
theorem dX12_up_1 : decode cX12_up 1 = .ok (.lneg, 1) := by decide +kernel
theorem dX12_up_2 : decode cX12_up 2 = .ok (.lload_n 2, 1) := by decide +kernel
theorem dX12_up_3 : decode cX12_up 3 = .ok (.invokestatic 247, 3) := by decide +kernel
theorem dX12_up_6 : decode cX12_up 6 = .ok (.lneg, 1) := by decide +kernel
theorem dX12_up_7 : decode cX12_up 7 = .ok (.lreturn, 1) := by decide +kernel
theorem dX12_gcd_0 : decode cX12_gcd 0 = .ok (.lload_n 0, 1) := by decide +kernel
theorem dX12_gcd_1 : decode cX12_gcd 1 = .ok (.invokestatic 251, 3) := by decide +kernel
theorem dX12_gcd_4 : decode cX12_gcd 4 = .ok (.lstore 4, 2) := by decide +kernel
theorem dX12_gcd_6 : decode cX12_gcd 6 = .ok (.lload_n 2, 1) := by decide +kernel
theorem dX12_gcd_7 : decode cX12_gcd 7 = .ok (.invokestatic 251, 3) := by decide +kernel
theorem dX12_gcd_10 : decode cX12_gcd 10 = .ok (.lstore 6, 2) := by decide +kernel
theorem dX12_gcd_12 : decode cX12_gcd 12 = .ok (.lload 6, 2) := by decide +kernel
theorem dX12_gcd_14 : decode cX12_gcd 14 = .ok (.lconst 0, 1) := by decide +kernel
theorem dX12_gcd_15 : decode cX12_gcd 15 = .ok (.lcmp, 1) := by decide +kernel
theorem dX12_gcd_16 : decode cX12_gcd 16 = .ok (.ifCond .eq 21, 3) := by decide +kernel
theorem dX12_gcd_19 : decode cX12_gcd 19 = .ok (.lload 4, 2) := by decide +kernel
theorem dX12_gcd_21 : decode cX12_gcd 21 = .ok (.lload 6, 2) := by decide +kernel
theorem dX12_gcd_23 : decode cX12_gcd 23 = .ok (.lrem, 1) := by decide +kernel
theorem dX12_gcd_24 : decode cX12_gcd 24 = .ok (.lstore 8, 2) := by decide +kernel
theorem dX12_gcd_26 : decode cX12_gcd 26 = .ok (.lload 6, 2) := by decide +kernel
theorem dX12_gcd_28 : decode cX12_gcd 28 = .ok (.lstore 4, 2) := by decide +kernel
theorem dX12_gcd_30 : decode cX12_gcd 30 = .ok (.lload 8, 2) := by decide +kernel
theorem dX12_gcd_32 : decode cX12_gcd 32 = .ok (.lstore 6, 2) := by decide +kernel
theorem dX12_gcd_34 : decode cX12_gcd 34 = .ok (.goto (-22), 3) := by decide +kernel
theorem dX12_gcd_37 : decode cX12_gcd 37 = .ok (.lload 4, 2) := by decide +kernel
theorem dX12_gcd_39 : decode cX12_gcd 39 = .ok (.lreturn, 1) := by decide +kernel
theorem dX12_tapeWord_0 : decode cX12_tapeWord 0 = .ok (.bipush 24, 2) := by decide +kernel
theorem dX12_tapeWord_2 : decode cX12_tapeWord 2 = .ok (.istore_n 2, 1) := by decide +kernel
theorem dX12_tapeWord_3 : decode cX12_tapeWord 3 = .ok (.iload_n 2, 1) := by decide +kernel
theorem dX12_tapeWord_4 : decode cX12_tapeWord 4 = .ok (.ifCond .lt 35, 3) := by decide +kernel
theorem dX12_tapeWord_7 : decode cX12_tapeWord 7 = .ok (.aload_n 0, 1) := by decide +kernel
theorem dX12_tapeWord_8 : decode cX12_tapeWord 8 = .ok (.getfield 7, 3) := by decide +kernel
theorem dX12_tapeWord_11 : decode cX12_tapeWord 11 = .ok (.aload_n 0, 1) := by decide +kernel
theorem dX12_tapeWord_12 : decode cX12_tapeWord 12 = .ok (.getfield 255, 3) := by decide +kernel
theorem dX12_tapeWord_15 : decode cX12_tapeWord 15 = .ok (.iload_n 1, 1) := by decide +kernel
theorem dX12_tapeWord_16 : decode cX12_tapeWord 16 = .ok (.iload_n 2, 1) := by decide +kernel
theorem dX12_tapeWord_17 : decode cX12_tapeWord 17 = .ok (.ishr, 1) := by decide +kernel
theorem dX12_tapeWord_18 : decode cX12_tapeWord 18 = .ok (.sipush 255, 3) := by decide +kernel
theorem dX12_tapeWord_21 : decode cX12_tapeWord 21 = .ok (.iand, 1) := by decide +kernel
theorem dX12_tapeWord_22 : decode cX12_tapeWord 22 = .ok (.iastore, 1) := by decide +kernel
theorem dX12_tapeWord_23 : decode cX12_tapeWord 23 = .ok (.aload_n 0, 1) := by decide +kernel
theorem dX12_tapeWord_24 : decode cX12_tapeWord 24 = .ok (.dup, 1) := by decide +kernel
theorem dX12_tapeWord_25 : decode cX12_tapeWord 25 = .ok (.getfield 255, 3) := by decide +kernel
theorem dX12_tapeWord_28 : decode cX12_tapeWord 28 = .ok (.iconst 1, 1) := by decide +kernel
theorem dX12_tapeWord_29 : decode cX12_tapeWord 29 = .ok (.iadd, 1) := by decide +kernel
theorem dX12_tapeWord_30 : decode cX12_tapeWord 30 = .ok (.putfield 255, 3) := by decide +kernel
theorem dX12_tapeWord_33 : decode cX12_tapeWord 33 = .ok (.iinc 2 (-8), 3) := by decide +kernel
theorem dX12_tapeWord_36 : decode cX12_tapeWord 36 = .ok (.goto (-33), 3) := by decide +kernel
theorem dX12_tapeWord_39 : decode cX12_tapeWord 39 = .ok (.return_, 1) := by decide +kernel
theorem dX12_feed_0 : decode cX12_feed 0 = .ok (.aload_n 0, 1) := by decide +kernel
theorem dX12_feed_1 : decode cX12_feed 1 = .ok (.aload_n 0, 1) := by decide +kernel
theorem dX12_feed_2 : decode cX12_feed 2 = .ok (.getfield 255, 3) := by decide +kernel
theorem dX12_feed_5 : decode cX12_feed 5 = .ok (.bipush 20, 2) := by decide +kernel
theorem dX12_feed_7 : decode cX12_feed 7 = .ok (.iadd, 1) := by decide +kernel
theorem dX12_feed_8 : decode cX12_feed 8 = .ok (.sipush 4000, 3) := by decide +kernel
theorem dX12_feed_11 : decode cX12_feed 11 = .ok (.if_icmp .le 7, 3) := by decide +kernel
theorem dX12_feed_14 : decode cX12_feed 14 = .ok (.iconst 1, 1) := by decide +kernel
theorem dX12_feed_15 : decode cX12_feed 15 = .ok (.goto 4, 3) := by decide +kernel
theorem dX12_feed_18 : decode cX12_feed 18 = .ok (.iconst 0, 1) := by decide +kernel
theorem dX12_feed_19 : decode cX12_feed 19 = .ok (.putfield 243, 3) := by decide +kernel
theorem dX12_feed_22 : decode cX12_feed 22 = .ok (.aload_n 0, 1) := by decide +kernel
theorem dX12_feed_23 : decode cX12_feed 23 = .ok (.getfield 243, 3) := by decide +kernel
theorem dX12_feed_26 : decode cX12_feed 26 = .ok (.ifCond .le 5, 3) := by decide +kernel
theorem dX12_feed_29 : decode cX12_feed 29 = .ok (.iconst 0, 1) := by decide +kernel
theorem dX12_feed_30 : decode cX12_feed 30 = .ok (.ireturn, 1) := by decide +kernel
theorem dX12_feed_31 : decode cX12_feed 31 = .ok (.aload_n 0, 1) := by decide +kernel
theorem dX12_feed_32 : decode cX12_feed 32 = .ok (.iload_n 1, 1) := by decide +kernel
theorem dX12_feed_33 : decode cX12_feed 33 = .ok (.invokevirtual 258, 3) := by decide +kernel
theorem dX12_feed_36 : decode cX12_feed 36 = .ok (.aload_n 0, 1) := by decide +kernel
theorem dX12_feed_37 : decode cX12_feed 37 = .ok (.iload_n 2, 1) := by decide +kernel
theorem dX12_feed_38 : decode cX12_feed 38 = .ok (.invokevirtual 258, 3) := by decide +kernel
theorem dX12_feed_41 : decode cX12_feed 41 = .ok (.aload_n 0, 1) := by decide +kernel
theorem dX12_feed_42 : decode cX12_feed 42 = .ok (.iload_n 3, 1) := by decide +kernel
theorem dX12_feed_43 : decode cX12_feed 43 = .ok (.invokevirtual 258, 3) := by decide +kernel
theorem dX12_feed_46 : decode cX12_feed 46 = .ok (.aload_n 0, 1) := by decide +kernel
theorem dX12_feed_47 : decode cX12_feed 47 = .ok (.iload 4, 2) := by decide +kernel
theorem dX12_feed_49 : decode cX12_feed 49 = .ok (.invokevirtual 258, 3) := by decide +kernel
theorem dX12_feed_52 : decode cX12_feed 52 = .ok (.aload_n 0, 1) := by decide +kernel
theorem dX12_feed_53 : decode cX12_feed 53 = .ok (.iload 5, 2) := by decide +kernel
theorem dX12_feed_55 : decode cX12_feed 55 = .ok (.invokevirtual 258, 3) := by decide +kernel
theorem dX12_feed_58 : decode cX12_feed 58 = .ok (.aload_n 0, 1) := by decide +kernel
theorem dX12_feed_59 : decode cX12_feed 59 = .ok (.getfield 255, 3) := by decide +kernel
theorem dX12_feed_62 : decode cX12_feed 62 = .ok (.ireturn, 1) := by decide +kernel
theorem dX12_end_0 : decode cX12_end 0 = .ok (.aload_n 0, 1) := by decide +kernel
theorem dX12_end_1 : decode cX12_end 1 = .ok (.iload_n 1, 1) := by decide +kernel
theorem dX12_end_2 : decode cX12_end 2 = .ok (.i2l, 1) := by decide +kernel
theorem dX12_end_3 : decode cX12_end 3 = .ok (.lconst 0, 1) := by decide +kernel
theorem dX12_end_4 : decode cX12_end 4 = .ok (.aload_n 0, 1) := by decide +kernel
theorem dX12_end_5 : decode cX12_end 5 = .ok (.getfield 255, 3) := by decide +kernel
theorem dX12_end_8 : decode cX12_end 8 = .ok (.i2l, 1) := by decide +kernel
theorem dX12_end_9 : decode cX12_end 9 = .ok (.invokestatic 262, 3) := by decide +kernel
theorem dX12_end_12 : decode cX12_end 12 = .ok (.ifCond .eq 7, 3) := by decide +kernel
theorem dX12_end_15 : decode cX12_end 15 = .ok (.iconst 0, 1) := by decide +kernel
theorem dX12_end_16 : decode cX12_end 16 = .ok (.goto 4, 3) := by decide +kernel
theorem dX12_end_19 : decode cX12_end 19 = .ok (.iconst 1, 1) := by decide +kernel
theorem dX12_end_20 : decode cX12_end 20 = .ok (.putfield 243, 3) := by decide +kernel
theorem dX12_end_23 : decode cX12_end 23 = .ok (.aload_n 0, 1) := by decide +kernel
theorem dX12_end_24 : decode cX12_end 24 = .ok (.getfield 243, 3) := by decide +kernel
theorem dX12_end_27 : decode cX12_end 27 = .ok (.ifCond .le 5, 3) := by decide +kernel
theorem dX12_end_30 : decode cX12_end 30 = .ok (.iconst 0, 1) := by decide +kernel
theorem dX12_end_31 : decode cX12_end 31 = .ok (.ireturn, 1) := by decide +kernel
theorem dX12_end_32 : decode cX12_end 32 = .ok (.aload_n 0, 1) := by decide +kernel
theorem dX12_end_33 : decode cX12_end 33 = .ok (.iload_n 1, 1) := by decide +kernel
theorem dX12_end_34 : decode cX12_end 34 = .ok (.putfield 255, 3) := by decide +kernel
theorem dX12_end_37 : decode cX12_end 37 = .ok (.iload_n 1, 1) := by decide +kernel
theorem dX12_end_38 : decode cX12_end 38 = .ok (.ireturn, 1) := by decide +kernel
theorem dX12_fault_0 : decode cX12_fault 0 = .ok (.aload_n 0, 1) := by decide +kernel
theorem dX12_fault_1 : decode cX12_fault 1 = .ok (.iconst 0, 1) := by decide +kernel
theorem dX12_fault_2 : decode cX12_fault 2 = .ok (.putfield 243, 3) := by decide +kernel
theorem dX12_fault_5 : decode cX12_fault 5 = .ok (.iload_n 1, 1) := by decide +kernel
theorem dX12_fault_6 : decode cX12_fault 6 = .ok (.ifCond .ne 10, 3) := by decide +kernel
theorem dX12_fault_9 : decode cX12_fault 9 = .ok (.aload_n 0, 1) := by decide +kernel
theorem dX12_fault_10 : decode cX12_fault 10 = .ok (.getfield 266, 3) := by decide +kernel
theorem dX12_fault_13 : decode cX12_fault 13 = .ok (.goto 16, 3) := by decide +kernel
theorem dX12_fault_16 : decode cX12_fault 16 = .ok (.iload_n 1, 1) := by decide +kernel
theorem dX12_fault_17 : decode cX12_fault 17 = .ok (.iconst 1, 1) := by decide +kernel
theorem dX12_fault_18 : decode cX12_fault 18 = .ok (.if_icmp .ne 10, 3) := by decide +kernel
theorem dX12_fault_21 : decode cX12_fault 21 = .ok (.aload_n 0, 1) := by decide +kernel
theorem dX12_fault_22 : decode cX12_fault 22 = .ok (.getfield 269, 3) := by decide +kernel
theorem dX12_fault_25 : decode cX12_fault 25 = .ok (.goto 4, 3) := by decide +kernel
theorem dX12_fault_28 : decode cX12_fault 28 = .ok (.iconst (-1), 1) := by decide +kernel
theorem dX12_fault_29 : decode cX12_fault 29 = .ok (.ireturn, 1) := by decide +kernel
theorem dX12_takeInput_0 : decode cX12_takeInput 0 = .ok (.aload_n 0, 1) := by decide +kernel
theorem dX12_takeInput_1 : decode cX12_takeInput 1 = .ok (.aload_n 0, 1) := by decide +kernel
theorem dX12_takeInput_2 : decode cX12_takeInput 2 = .ok (.getfield 255, 3) := by decide +kernel
theorem dX12_takeInput_5 : decode cX12_takeInput 5 = .ok (.putfield 272, 3) := by decide +kernel
theorem dX12_takeInput_8 : decode cX12_takeInput 8 = .ok (.aload_n 0, 1) := by decide +kernel
theorem dX12_takeInput_9 : decode cX12_takeInput 9 = .ok (.iconst 0, 1) := by decide +kernel
theorem dX12_takeInput_10 : decode cX12_takeInput 10 = .ok (.putfield 255, 3) := by decide +kernel
theorem dX12_takeInput_13 : decode cX12_takeInput 13 = .ok (.aload_n 0, 1) := by decide +kernel
theorem dX12_takeInput_14 : decode cX12_takeInput 14 = .ok (.iconst 0, 1) := by decide +kernel
theorem dX12_takeInput_15 : decode cX12_takeInput 15 = .ok (.putfield 266, 3) := by decide +kernel
theorem dX12_takeInput_18 : decode cX12_takeInput 18 = .ok (.aload_n 0, 1) := by decide +kernel
theorem dX12_takeInput_19 : decode cX12_takeInput 19 = .ok (.iconst 0, 1) := by decide +kernel
theorem dX12_takeInput_20 : decode cX12_takeInput 20 = .ok (.putfield 269, 3) := by decide +kernel
theorem dX12_takeInput_23 : decode cX12_takeInput 23 = .ok (.return_, 1) := by decide +kernel
theorem dX12_wrong_0 : decode cX12_wrong 0 = .ok (.aload_n 0, 1) := by decide +kernel
theorem dX12_wrong_1 : decode cX12_wrong 1 = .ok (.getfield 266, 3) := by decide +kernel
theorem dX12_wrong_4 : decode cX12_wrong 4 = .ok (.ifCond .le 4, 3) := by decide +kernel
theorem dX12_wrong_7 : decode cX12_wrong 7 = .ok (.return_, 1) := by decide +kernel
theorem dX12_wrong_8 : decode cX12_wrong 8 = .ok (.aload_n 0, 1) := by decide +kernel
theorem dX12_wrong_9 : decode cX12_wrong 9 = .ok (.iload_n 1, 1) := by decide +kernel
theorem dX12_wrong_10 : decode cX12_wrong 10 = .ok (.putfield 266, 3) := by decide +kernel
theorem dX12_wrong_13 : decode cX12_wrong 13 = .ok (.aload_n 0, 1) := by decide +kernel
theorem dX12_wrong_14 : decode cX12_wrong 14 = .ok (.iload_n 2, 1) := by decide +kernel
theorem dX12_wrong_15 : decode cX12_wrong 15 = .ok (.putfield 269, 3) := by decide +kernel
theorem dX12_wrong_18 : decode cX12_wrong 18 = .ok (.return_, 1) := by decide +kernel
theorem dX12_found_0 : decode cX12_found 0 = .ok (.aload_n 0, 1) := by decide +kernel
theorem dX12_found_1 : decode cX12_found 1 = .ok (.getfield 275, 3) := by decide +kernel
theorem dX12_found_4 : decode cX12_found 4 = .ok (.ifCond .le 12, 3) := by decide +kernel
theorem dX12_found_7 : decode cX12_found 7 = .ok (.iload_n 2, 1) := by decide +kernel
theorem dX12_found_8 : decode cX12_found 8 = .ok (.aload_n 0, 1) := by decide +kernel
theorem dX12_found_9 : decode cX12_found 9 = .ok (.getfield 278, 3) := by decide +kernel
theorem dX12_found_12 : decode cX12_found 12 = .ok (.if_icmp .lt 4, 3) := by decide +kernel
theorem dX12_found_15 : decode cX12_found 15 = .ok (.return_, 1) := by decide +kernel
theorem dX12_found_16 : decode cX12_found 16 = .ok (.aload_n 0, 1) := by decide +kernel
theorem dX12_found_17 : decode cX12_found 17 = .ok (.iload_n 1, 1) := by decide +kernel
theorem dX12_found_18 : decode cX12_found 18 = .ok (.putfield 275, 3) := by decide +kernel
theorem dX12_found_21 : decode cX12_found 21 = .ok (.aload_n 0, 1) := by decide +kernel
theorem dX12_found_22 : decode cX12_found 22 = .ok (.iload_n 2, 1) := by decide +kernel
theorem dX12_found_23 : decode cX12_found 23 = .ok (.putfield 278, 3) := by decide +kernel
theorem dX12_found_26 : decode cX12_found 26 = .ok (.return_, 1) := by decide +kernel
theorem dX12_product_0 : decode cX12_product 0 = .ok (.lload_n 1, 1) := by decide +kernel
theorem dX12_product_1 : decode cX12_product 1 = .ok (.lconst 0, 1) := by decide +kernel
theorem dX12_product_2 : decode cX12_product 2 = .ok (.lcmp, 1) := by decide +kernel
theorem dX12_product_3 : decode cX12_product 3 = .ok (.ifCond .eq 9, 3) := by decide +kernel
theorem dX12_product_6 : decode cX12_product 6 = .ok (.lload_n 3, 1) := by decide +kernel
theorem dX12_product_7 : decode cX12_product 7 = .ok (.lconst 0, 1) := by decide +kernel
theorem dX12_product_8 : decode cX12_product 8 = .ok (.lcmp, 1) := by decide +kernel
theorem dX12_product_9 : decode cX12_product 9 = .ok (.ifCond .ne 5, 3) := by decide +kernel
theorem dX12_product_12 : decode cX12_product 12 = .ok (.lconst 0, 1) := by decide +kernel
theorem dX12_product_13 : decode cX12_product 13 = .ok (.lreturn, 1) := by decide +kernel
theorem dX12_product_14 : decode cX12_product 14 = .ok (.lload_n 3, 1) := by decide +kernel
theorem dX12_product_15 : decode cX12_product 15 = .ok (.invokestatic 251, 3) := by decide +kernel
theorem dX12_product_18 : decode cX12_product 18 = .ok (.ldc2_w 281, 3) := by decide +kernel
theorem dX12_product_21 : decode cX12_product 21 = .ok (.lload_n 1, 1) := by decide +kernel
theorem dX12_product_22 : decode cX12_product 22 = .ok (.invokestatic 251, 3) := by decide +kernel
theorem dX12_product_25 : decode cX12_product 25 = .ok (.ldiv, 1) := by decide +kernel
theorem dX12_product_26 : decode cX12_product 26 = .ok (.lcmp, 1) := by decide +kernel
theorem dX12_product_27 : decode cX12_product 27 = .ok (.ifCond .le 10, 3) := by decide +kernel
theorem dX12_product_30 : decode cX12_product 30 = .ok (.aload_n 0, 1) := by decide +kernel
theorem dX12_product_31 : decode cX12_product 31 = .ok (.iconst 1, 1) := by decide +kernel
theorem dX12_product_32 : decode cX12_product 32 = .ok (.putfield 283, 3) := by decide +kernel
theorem dX12_product_35 : decode cX12_product 35 = .ok (.lconst 0, 1) := by decide +kernel
theorem dX12_product_36 : decode cX12_product 36 = .ok (.lreturn, 1) := by decide +kernel
theorem dX12_product_37 : decode cX12_product 37 = .ok (.lload_n 1, 1) := by decide +kernel
theorem dX12_product_38 : decode cX12_product 38 = .ok (.lload_n 3, 1) := by decide +kernel
theorem dX12_product_39 : decode cX12_product 39 = .ok (.lmul, 1) := by decide +kernel
theorem dX12_product_40 : decode cX12_product 40 = .ok (.lreturn, 1) := by decide +kernel
theorem dX12_lowest_0 : decode cX12_lowest 0 = .ok (.lload_n 1, 1) := by decide +kernel
theorem dX12_lowest_1 : decode cX12_lowest 1 = .ok (.invokestatic 251, 3) := by decide +kernel
theorem dX12_lowest_4 : decode cX12_lowest 4 = .ok (.ldc2_w 281, 3) := by decide +kernel
theorem dX12_lowest_7 : decode cX12_lowest 7 = .ok (.lcmp, 1) := by decide +kernel
theorem dX12_lowest_8 : decode cX12_lowest 8 = .ok (.ifCond .le 8, 3) := by decide +kernel
theorem dX12_lowest_11 : decode cX12_lowest 11 = .ok (.aload_n 0, 1) := by decide +kernel
theorem dX12_lowest_12 : decode cX12_lowest 12 = .ok (.iconst 1, 1) := by decide +kernel
theorem dX12_lowest_13 : decode cX12_lowest 13 = .ok (.putfield 283, 3) := by decide +kernel
theorem dX12_lowest_16 : decode cX12_lowest 16 = .ok (.aload_n 0, 1) := by decide +kernel
theorem dX12_lowest_17 : decode cX12_lowest 17 = .ok (.getfield 283, 3) := by decide +kernel
theorem dX12_lowest_20 : decode cX12_lowest 20 = .ok (.ifCond .ne 9, 3) := by decide +kernel
theorem dX12_lowest_23 : decode cX12_lowest 23 = .ok (.lload_n 1, 1) := by decide +kernel
theorem dX12_lowest_24 : decode cX12_lowest 24 = .ok (.lconst 0, 1) := by decide +kernel
theorem dX12_lowest_25 : decode cX12_lowest 25 = .ok (.lcmp, 1) := by decide +kernel
theorem dX12_lowest_26 : decode cX12_lowest 26 = .ok (.ifCond .ne 14, 3) := by decide +kernel
theorem dX12_lowest_29 : decode cX12_lowest 29 = .ok (.aload_n 0, 1) := by decide +kernel
theorem dX12_lowest_30 : decode cX12_lowest 30 = .ok (.lconst 0, 1) := by decide +kernel
theorem dX12_lowest_31 : decode cX12_lowest 31 = .ok (.putfield 287, 3) := by decide +kernel
theorem dX12_lowest_34 : decode cX12_lowest 34 = .ok (.aload_n 0, 1) := by decide +kernel
theorem dX12_lowest_35 : decode cX12_lowest 35 = .ok (.lconst 1, 1) := by decide +kernel
theorem dX12_lowest_36 : decode cX12_lowest 36 = .ok (.putfield 291, 3) := by decide +kernel
theorem dX12_lowest_39 : decode cX12_lowest 39 = .ok (.return_, 1) := by decide +kernel
theorem dX12_lowest_40 : decode cX12_lowest 40 = .ok (.lload_n 1, 1) := by decide +kernel
theorem dX12_lowest_41 : decode cX12_lowest 41 = .ok (.lload_n 3, 1) := by decide +kernel
theorem dX12_lowest_42 : decode cX12_lowest 42 = .ok (.invokestatic 294, 3) := by decide +kernel
theorem dX12_lowest_45 : decode cX12_lowest 45 = .ok (.lstore 5, 2) := by decide +kernel
theorem dX12_lowest_47 : decode cX12_lowest 47 = .ok (.aload_n 0, 1) := by decide +kernel
theorem dX12_lowest_48 : decode cX12_lowest 48 = .ok (.lload_n 1, 1) := by decide +kernel
theorem dX12_lowest_49 : decode cX12_lowest 49 = .ok (.lload 5, 2) := by decide +kernel
theorem dX12_lowest_51 : decode cX12_lowest 51 = .ok (.ldiv, 1) := by decide +kernel
theorem dX12_lowest_52 : decode cX12_lowest 52 = .ok (.putfield 287, 3) := by decide +kernel
theorem dX12_lowest_55 : decode cX12_lowest 55 = .ok (.aload_n 0, 1) := by decide +kernel
theorem dX12_lowest_56 : decode cX12_lowest 56 = .ok (.lload_n 3, 1) := by decide +kernel
theorem dX12_lowest_57 : decode cX12_lowest 57 = .ok (.lload 5, 2) := by decide +kernel
theorem dX12_lowest_59 : decode cX12_lowest 59 = .ok (.ldiv, 1) := by decide +kernel
theorem dX12_lowest_60 : decode cX12_lowest 60 = .ok (.putfield 291, 3) := by decide +kernel
theorem dX12_lowest_63 : decode cX12_lowest 63 = .ok (.return_, 1) := by decide +kernel
theorem dX12_sum_0 : decode cX12_sum 0 = .ok (.lload_n 3, 1) := by decide +kernel
theorem dX12_sum_1 : decode cX12_sum 1 = .ok (.lload 7, 2) := by decide +kernel
theorem dX12_sum_3 : decode cX12_sum 3 = .ok (.invokestatic 294, 3) := by decide +kernel
theorem dX12_sum_6 : decode cX12_sum 6 = .ok (.lstore 9, 2) := by decide +kernel
theorem dX12_sum_8 : decode cX12_sum 8 = .ok (.aload_n 0, 1) := by decide +kernel
theorem dX12_sum_9 : decode cX12_sum 9 = .ok (.lload_n 1, 1) := by decide +kernel
theorem dX12_sum_10 : decode cX12_sum 10 = .ok (.lload 7, 2) := by decide +kernel
theorem dX12_sum_12 : decode cX12_sum 12 = .ok (.lload 9, 2) := by decide +kernel
theorem dX12_sum_14 : decode cX12_sum 14 = .ok (.ldiv, 1) := by decide +kernel
theorem dX12_sum_15 : decode cX12_sum 15 = .ok (.invokevirtual 297, 3) := by decide +kernel
theorem dX12_sum_18 : decode cX12_sum 18 = .ok (.lstore 11, 2) := by decide +kernel
theorem dX12_sum_20 : decode cX12_sum 20 = .ok (.aload_n 0, 1) := by decide +kernel
theorem dX12_sum_21 : decode cX12_sum 21 = .ok (.lload 5, 2) := by decide +kernel
theorem dX12_sum_23 : decode cX12_sum 23 = .ok (.lload_n 3, 1) := by decide +kernel
theorem dX12_sum_24 : decode cX12_sum 24 = .ok (.lload 9, 2) := by decide +kernel
theorem dX12_sum_26 : decode cX12_sum 26 = .ok (.ldiv, 1) := by decide +kernel
theorem dX12_sum_27 : decode cX12_sum 27 = .ok (.invokevirtual 297, 3) := by decide +kernel
theorem dX12_sum_30 : decode cX12_sum 30 = .ok (.lstore 13, 2) := by decide +kernel
theorem dX12_sum_32 : decode cX12_sum 32 = .ok (.aload_n 0, 1) := by decide +kernel
theorem dX12_sum_33 : decode cX12_sum 33 = .ok (.lload_n 3, 1) := by decide +kernel
theorem dX12_sum_34 : decode cX12_sum 34 = .ok (.lload 7, 2) := by decide +kernel
theorem dX12_sum_36 : decode cX12_sum 36 = .ok (.lload 9, 2) := by decide +kernel
theorem dX12_sum_38 : decode cX12_sum 38 = .ok (.ldiv, 1) := by decide +kernel
theorem dX12_sum_39 : decode cX12_sum 39 = .ok (.invokevirtual 297, 3) := by decide +kernel
theorem dX12_sum_42 : decode cX12_sum 42 = .ok (.lstore 15, 2) := by decide +kernel
theorem dX12_sum_44 : decode cX12_sum 44 = .ok (.aload_n 0, 1) := by decide +kernel
theorem dX12_sum_45 : decode cX12_sum 45 = .ok (.lload 11, 2) := by decide +kernel
theorem dX12_sum_47 : decode cX12_sum 47 = .ok (.lload 13, 2) := by decide +kernel
theorem dX12_sum_49 : decode cX12_sum 49 = .ok (.ladd, 1) := by decide +kernel
theorem dX12_sum_50 : decode cX12_sum 50 = .ok (.lload 15, 2) := by decide +kernel
theorem dX12_sum_52 : decode cX12_sum 52 = .ok (.invokevirtual 300, 3) := by decide +kernel
theorem dX12_sum_55 : decode cX12_sum 55 = .ok (.return_, 1) := by decide +kernel
theorem dX12_times_0 : decode cX12_times 0 = .ok (.lload_n 1, 1) := by decide +kernel
theorem dX12_times_1 : decode cX12_times 1 = .ok (.lload 7, 2) := by decide +kernel
theorem dX12_times_3 : decode cX12_times 3 = .ok (.invokestatic 294, 3) := by decide +kernel
theorem dX12_times_6 : decode cX12_times 6 = .ok (.lstore 9, 2) := by decide +kernel
theorem dX12_times_8 : decode cX12_times 8 = .ok (.lload 5, 2) := by decide +kernel
theorem dX12_times_10 : decode cX12_times 10 = .ok (.lload_n 3, 1) := by decide +kernel
theorem dX12_times_11 : decode cX12_times 11 = .ok (.invokestatic 294, 3) := by decide +kernel
theorem dX12_times_14 : decode cX12_times 14 = .ok (.lstore 11, 2) := by decide +kernel
theorem dX12_times_16 : decode cX12_times 16 = .ok (.aload_n 0, 1) := by decide +kernel
theorem dX12_times_17 : decode cX12_times 17 = .ok (.lload_n 1, 1) := by decide +kernel
theorem dX12_times_18 : decode cX12_times 18 = .ok (.lload 9, 2) := by decide +kernel
theorem dX12_times_20 : decode cX12_times 20 = .ok (.ldiv, 1) := by decide +kernel
theorem dX12_times_21 : decode cX12_times 21 = .ok (.lload 5, 2) := by decide +kernel
theorem dX12_times_23 : decode cX12_times 23 = .ok (.lload 11, 2) := by decide +kernel
theorem dX12_times_25 : decode cX12_times 25 = .ok (.ldiv, 1) := by decide +kernel
theorem dX12_times_26 : decode cX12_times 26 = .ok (.invokevirtual 297, 3) := by decide +kernel
theorem dX12_times_29 : decode cX12_times 29 = .ok (.lstore 13, 2) := by decide +kernel
theorem dX12_times_31 : decode cX12_times 31 = .ok (.aload_n 0, 1) := by decide +kernel
theorem dX12_times_32 : decode cX12_times 32 = .ok (.lload_n 3, 1) := by decide +kernel
theorem dX12_times_33 : decode cX12_times 33 = .ok (.lload 11, 2) := by decide +kernel
theorem dX12_times_35 : decode cX12_times 35 = .ok (.ldiv, 1) := by decide +kernel
theorem dX12_times_36 : decode cX12_times 36 = .ok (.lload 7, 2) := by decide +kernel
theorem dX12_times_38 : decode cX12_times 38 = .ok (.lload 9, 2) := by decide +kernel
theorem dX12_times_40 : decode cX12_times 40 = .ok (.ldiv, 1) := by decide +kernel
theorem dX12_times_41 : decode cX12_times 41 = .ok (.invokevirtual 297, 3) := by decide +kernel
theorem dX12_times_44 : decode cX12_times 44 = .ok (.lstore 15, 2) := by decide +kernel
theorem dX12_times_46 : decode cX12_times 46 = .ok (.aload_n 0, 1) := by decide +kernel
theorem dX12_times_47 : decode cX12_times 47 = .ok (.lload 13, 2) := by decide +kernel
theorem dX12_times_49 : decode cX12_times 49 = .ok (.lload 15, 2) := by decide +kernel
theorem dX12_times_51 : decode cX12_times 51 = .ok (.invokevirtual 300, 3) := by decide +kernel
theorem dX12_times_54 : decode cX12_times 54 = .ok (.return_, 1) := by decide +kernel
theorem dX12_by_0 : decode cX12_by 0 = .ok (.lload 5, 2) := by decide +kernel
theorem dX12_by_2 : decode cX12_by 2 = .ok (.lconst 0, 1) := by decide +kernel
theorem dX12_by_3 : decode cX12_by 3 = .ok (.lcmp, 1) := by decide +kernel
theorem dX12_by_4 : decode cX12_by 4 = .ok (.ifCond .ge 18, 3) := by decide +kernel
theorem dX12_by_7 : decode cX12_by 7 = .ok (.aload_n 0, 1) := by decide +kernel
theorem dX12_by_8 : decode cX12_by 8 = .ok (.lload_n 1, 1) := by decide +kernel
theorem dX12_by_9 : decode cX12_by 9 = .ok (.lload_n 3, 1) := by decide +kernel
theorem dX12_by_10 : decode cX12_by 10 = .ok (.lload 7, 2) := by decide +kernel
theorem dX12_by_12 : decode cX12_by 12 = .ok (.lneg, 1) := by decide +kernel
theorem dX12_by_13 : decode cX12_by 13 = .ok (.lload 5, 2) := by decide +kernel
theorem dX12_by_15 : decode cX12_by 15 = .ok (.lneg, 1) := by decide +kernel
theorem dX12_by_16 : decode cX12_by 16 = .ok (.invokevirtual 304, 3) := by decide +kernel
theorem dX12_by_19 : decode cX12_by 19 = .ok (.goto 13, 3) := by decide +kernel
theorem dX12_by_22 : decode cX12_by 22 = .ok (.aload_n 0, 1) := by decide +kernel
theorem dX12_by_23 : decode cX12_by 23 = .ok (.lload_n 1, 1) := by decide +kernel
theorem dX12_by_24 : decode cX12_by 24 = .ok (.lload_n 3, 1) := by decide +kernel
theorem dX12_by_25 : decode cX12_by 25 = .ok (.lload 7, 2) := by decide +kernel
theorem dX12_by_27 : decode cX12_by 27 = .ok (.lload 5, 2) := by decide +kernel
theorem dX12_by_29 : decode cX12_by 29 = .ok (.invokevirtual 304, 3) := by decide +kernel
theorem dX12_by_32 : decode cX12_by 32 = .ok (.return_, 1) := by decide +kernel
theorem dX12_box_0 : decode cX12_box 0 = .ok (.aload_n 0, 1) := by decide +kernel
theorem dX12_box_1 : decode cX12_box 1 = .ok (.getfield 20, 3) := by decide +kernel
theorem dX12_box_4 : decode cX12_box 4 = .ok (.iload_n 1, 1) := by decide +kernel
theorem dX12_box_5 : decode cX12_box 5 = .ok (.iload 6, 2) := by decide +kernel
theorem dX12_box_7 : decode cX12_box 7 = .ok (.ifCond .ne 26, 3) := by decide +kernel
theorem dX12_box_10 : decode cX12_box 10 = .ok (.lload_n 2, 1) := by decide +kernel
theorem dX12_box_11 : decode cX12_box 11 = .ok (.invokestatic 251, 3) := by decide +kernel
theorem dX12_box_14 : decode cX12_box 14 = .ok (.ldc2_w 308, 3) := by decide +kernel
theorem dX12_box_17 : decode cX12_box 17 = .ok (.lcmp, 1) := by decide +kernel
theorem dX12_box_18 : decode cX12_box 18 = .ok (.ifCond .gt 15, 3) := by decide +kernel
theorem dX12_box_21 : decode cX12_box 21 = .ok (.lload 4, 2) := by decide +kernel
theorem dX12_box_23 : decode cX12_box 23 = .ok (.invokestatic 251, 3) := by decide +kernel
theorem dX12_box_26 : decode cX12_box 26 = .ok (.ldc2_w 308, 3) := by decide +kernel
theorem dX12_box_29 : decode cX12_box 29 = .ok (.lcmp, 1) := by decide +kernel
theorem dX12_box_30 : decode cX12_box 30 = .ok (.ifCond .le 7, 3) := by decide +kernel
theorem dX12_box_33 : decode cX12_box 33 = .ok (.iconst 1, 1) := by decide +kernel
theorem dX12_box_34 : decode cX12_box 34 = .ok (.goto 4, 3) := by decide +kernel
theorem dX12_box_37 : decode cX12_box 37 = .ok (.iconst 0, 1) := by decide +kernel
theorem dX12_box_38 : decode cX12_box 38 = .ok (.bastore, 1) := by decide +kernel
theorem dX12_box_39 : decode cX12_box 39 = .ok (.aload_n 0, 1) := by decide +kernel
theorem dX12_box_40 : decode cX12_box 40 = .ok (.getfield 13, 3) := by decide +kernel
theorem dX12_box_43 : decode cX12_box 43 = .ok (.iload_n 1, 1) := by decide +kernel
theorem dX12_box_44 : decode cX12_box 44 = .ok (.aload_n 0, 1) := by decide +kernel
theorem dX12_box_45 : decode cX12_box 45 = .ok (.getfield 20, 3) := by decide +kernel
theorem dX12_box_48 : decode cX12_box 48 = .ok (.iload_n 1, 1) := by decide +kernel
theorem dX12_box_49 : decode cX12_box 49 = .ok (.baload, 1) := by decide +kernel
theorem dX12_box_50 : decode cX12_box 50 = .ok (.ifCond .eq 7, 3) := by decide +kernel
theorem dX12_box_53 : decode cX12_box 53 = .ok (.lconst 0, 1) := by decide +kernel
theorem dX12_box_54 : decode cX12_box 54 = .ok (.goto 4, 3) := by decide +kernel
theorem dX12_box_57 : decode cX12_box 57 = .ok (.lload_n 2, 1) := by decide +kernel
theorem dX12_box_58 : decode cX12_box 58 = .ok (.lastore, 1) := by decide +kernel
theorem dX12_box_59 : decode cX12_box 59 = .ok (.aload_n 0, 1) := by decide +kernel
theorem dX12_box_60 : decode cX12_box 60 = .ok (.getfield 17, 3) := by decide +kernel
theorem dX12_box_63 : decode cX12_box 63 = .ok (.iload_n 1, 1) := by decide +kernel
theorem dX12_box_64 : decode cX12_box 64 = .ok (.aload_n 0, 1) := by decide +kernel
theorem dX12_box_65 : decode cX12_box 65 = .ok (.getfield 20, 3) := by decide +kernel
theorem dX12_box_68 : decode cX12_box 68 = .ok (.iload_n 1, 1) := by decide +kernel
theorem dX12_box_69 : decode cX12_box 69 = .ok (.baload, 1) := by decide +kernel
theorem dX12_box_70 : decode cX12_box 70 = .ok (.ifCond .eq 7, 3) := by decide +kernel
theorem dX12_box_73 : decode cX12_box 73 = .ok (.lconst 0, 1) := by decide +kernel
theorem dX12_box_74 : decode cX12_box 74 = .ok (.goto 5, 3) := by decide +kernel
theorem dX12_box_77 : decode cX12_box 77 = .ok (.lload 4, 2) := by decide +kernel
theorem dX12_box_79 : decode cX12_box 79 = .ok (.lastore, 1) := by decide +kernel
theorem dX12_box_80 : decode cX12_box 80 = .ok (.return_, 1) := by decide +kernel
theorem dX12_add_0 : decode cX12_add 0 = .ok (.aload_n 0, 1) := by decide +kernel
theorem dX12_add_1 : decode cX12_add 1 = .ok (.iload_n 1, 1) := by decide +kernel
theorem dX12_add_2 : decode cX12_add 2 = .ok (.aload_n 0, 1) := by decide +kernel
theorem dX12_add_3 : decode cX12_add 3 = .ok (.getfield 13, 3) := by decide +kernel
theorem dX12_add_6 : decode cX12_add 6 = .ok (.iload_n 2, 1) := by decide +kernel
theorem dX12_add_7 : decode cX12_add 7 = .ok (.laload, 1) := by decide +kernel
theorem dX12_add_8 : decode cX12_add 8 = .ok (.aload_n 0, 1) := by decide +kernel
theorem dX12_add_9 : decode cX12_add 9 = .ok (.getfield 13, 3) := by decide +kernel
theorem dX12_add_12 : decode cX12_add 12 = .ok (.iload_n 3, 1) := by decide +kernel
theorem dX12_add_13 : decode cX12_add 13 = .ok (.laload, 1) := by decide +kernel
theorem dX12_add_14 : decode cX12_add 14 = .ok (.ladd, 1) := by decide +kernel
theorem dX12_add_15 : decode cX12_add 15 = .ok (.aload_n 0, 1) := by decide +kernel
theorem dX12_add_16 : decode cX12_add 16 = .ok (.getfield 17, 3) := by decide +kernel
theorem dX12_add_19 : decode cX12_add 19 = .ok (.iload_n 2, 1) := by decide +kernel
theorem dX12_add_20 : decode cX12_add 20 = .ok (.laload, 1) := by decide +kernel
theorem dX12_add_21 : decode cX12_add 21 = .ok (.aload_n 0, 1) := by decide +kernel
theorem dX12_add_22 : decode cX12_add 22 = .ok (.getfield 17, 3) := by decide +kernel
theorem dX12_add_25 : decode cX12_add 25 = .ok (.iload_n 3, 1) := by decide +kernel
theorem dX12_add_26 : decode cX12_add 26 = .ok (.laload, 1) := by decide +kernel
theorem dX12_add_27 : decode cX12_add 27 = .ok (.ladd, 1) := by decide +kernel
theorem dX12_add_28 : decode cX12_add 28 = .ok (.aload_n 0, 1) := by decide +kernel
theorem dX12_add_29 : decode cX12_add 29 = .ok (.getfield 20, 3) := by decide +kernel
theorem dX12_add_32 : decode cX12_add 32 = .ok (.iload_n 2, 1) := by decide +kernel
theorem dX12_add_33 : decode cX12_add 33 = .ok (.baload, 1) := by decide +kernel
theorem dX12_add_34 : decode cX12_add 34 = .ok (.ifCond .ne 12, 3) := by decide +kernel
theorem dX12_add_37 : decode cX12_add 37 = .ok (.aload_n 0, 1) := by decide +kernel
theorem dX12_add_38 : decode cX12_add 38 = .ok (.getfield 20, 3) := by decide +kernel
theorem dX12_add_41 : decode cX12_add 41 = .ok (.iload_n 3, 1) := by decide +kernel
theorem dX12_add_42 : decode cX12_add 42 = .ok (.baload, 1) := by decide +kernel
theorem dX12_add_43 : decode cX12_add 43 = .ok (.ifCond .eq 7, 3) := by decide +kernel
theorem dX12_add_46 : decode cX12_add 46 = .ok (.iconst 1, 1) := by decide +kernel
theorem dX12_add_47 : decode cX12_add 47 = .ok (.goto 4, 3) := by decide +kernel
theorem dX12_add_50 : decode cX12_add 50 = .ok (.iconst 0, 1) := by decide +kernel
theorem dX12_add_51 : decode cX12_add 51 = .ok (.invokevirtual 310, 3) := by decide +kernel
theorem dX12_add_54 : decode cX12_add 54 = .ok (.return_, 1) := by decide +kernel
theorem dX12_less_0 : decode cX12_less 0 = .ok (.aload_n 0, 1) := by decide +kernel
theorem dX12_less_1 : decode cX12_less 1 = .ok (.iload_n 1, 1) := by decide +kernel
theorem dX12_less_2 : decode cX12_less 2 = .ok (.aload_n 0, 1) := by decide +kernel
theorem dX12_less_3 : decode cX12_less 3 = .ok (.getfield 13, 3) := by decide +kernel
theorem dX12_less_6 : decode cX12_less 6 = .ok (.iload_n 2, 1) := by decide +kernel
theorem dX12_less_7 : decode cX12_less 7 = .ok (.laload, 1) := by decide +kernel
theorem dX12_less_8 : decode cX12_less 8 = .ok (.aload_n 0, 1) := by decide +kernel
theorem dX12_less_9 : decode cX12_less 9 = .ok (.getfield 17, 3) := by decide +kernel
theorem dX12_less_12 : decode cX12_less 12 = .ok (.iload_n 3, 1) := by decide +kernel
theorem dX12_less_13 : decode cX12_less 13 = .ok (.laload, 1) := by decide +kernel
theorem dX12_less_14 : decode cX12_less 14 = .ok (.lsub, 1) := by decide +kernel
theorem dX12_less_15 : decode cX12_less 15 = .ok (.aload_n 0, 1) := by decide +kernel
theorem dX12_less_16 : decode cX12_less 16 = .ok (.getfield 17, 3) := by decide +kernel
theorem dX12_less_19 : decode cX12_less 19 = .ok (.iload_n 2, 1) := by decide +kernel
theorem dX12_less_20 : decode cX12_less 20 = .ok (.laload, 1) := by decide +kernel
theorem dX12_less_21 : decode cX12_less 21 = .ok (.aload_n 0, 1) := by decide +kernel
theorem dX12_less_22 : decode cX12_less 22 = .ok (.getfield 13, 3) := by decide +kernel
theorem dX12_less_25 : decode cX12_less 25 = .ok (.iload_n 3, 1) := by decide +kernel
theorem dX12_less_26 : decode cX12_less 26 = .ok (.laload, 1) := by decide +kernel
theorem dX12_less_27 : decode cX12_less 27 = .ok (.lsub, 1) := by decide +kernel
theorem dX12_less_28 : decode cX12_less 28 = .ok (.aload_n 0, 1) := by decide +kernel
theorem dX12_less_29 : decode cX12_less 29 = .ok (.getfield 20, 3) := by decide +kernel
theorem dX12_less_32 : decode cX12_less 32 = .ok (.iload_n 2, 1) := by decide +kernel
theorem dX12_less_33 : decode cX12_less 33 = .ok (.baload, 1) := by decide +kernel
theorem dX12_less_34 : decode cX12_less 34 = .ok (.ifCond .ne 12, 3) := by decide +kernel
theorem dX12_less_37 : decode cX12_less 37 = .ok (.aload_n 0, 1) := by decide +kernel
theorem dX12_less_38 : decode cX12_less 38 = .ok (.getfield 20, 3) := by decide +kernel
theorem dX12_less_41 : decode cX12_less 41 = .ok (.iload_n 3, 1) := by decide +kernel
theorem dX12_less_42 : decode cX12_less 42 = .ok (.baload, 1) := by decide +kernel
theorem dX12_less_43 : decode cX12_less 43 = .ok (.ifCond .eq 7, 3) := by decide +kernel
theorem dX12_less_46 : decode cX12_less 46 = .ok (.iconst 1, 1) := by decide +kernel
theorem dX12_less_47 : decode cX12_less 47 = .ok (.goto 4, 3) := by decide +kernel
theorem dX12_less_50 : decode cX12_less 50 = .ok (.iconst 0, 1) := by decide +kernel
theorem dX12_less_51 : decode cX12_less 51 = .ok (.invokevirtual 310, 3) := by decide +kernel
theorem dX12_less_54 : decode cX12_less 54 = .ok (.return_, 1) := by decide +kernel
theorem dX12_turned_0 : decode cX12_turned 0 = .ok (.aload_n 0, 1) := by decide +kernel
theorem dX12_turned_1 : decode cX12_turned 1 = .ok (.iload_n 1, 1) := by decide +kernel
theorem dX12_turned_2 : decode cX12_turned 2 = .ok (.aload_n 0, 1) := by decide +kernel
theorem dX12_turned_3 : decode cX12_turned 3 = .ok (.getfield 17, 3) := by decide +kernel
theorem dX12_turned_6 : decode cX12_turned 6 = .ok (.iload_n 2, 1) := by decide +kernel
theorem dX12_turned_7 : decode cX12_turned 7 = .ok (.laload, 1) := by decide +kernel
theorem dX12_turned_8 : decode cX12_turned 8 = .ok (.lneg, 1) := by decide +kernel
theorem dX12_turned_9 : decode cX12_turned 9 = .ok (.aload_n 0, 1) := by decide +kernel
theorem dX12_turned_10 : decode cX12_turned 10 = .ok (.getfield 13, 3) := by decide +kernel
theorem dX12_turned_13 : decode cX12_turned 13 = .ok (.iload_n 2, 1) := by decide +kernel
theorem dX12_turned_14 : decode cX12_turned 14 = .ok (.laload, 1) := by decide +kernel
theorem dX12_turned_15 : decode cX12_turned 15 = .ok (.lneg, 1) := by decide +kernel
theorem dX12_turned_16 : decode cX12_turned 16 = .ok (.aload_n 0, 1) := by decide +kernel
theorem dX12_turned_17 : decode cX12_turned 17 = .ok (.getfield 20, 3) := by decide +kernel
theorem dX12_turned_20 : decode cX12_turned 20 = .ok (.iload_n 2, 1) := by decide +kernel
theorem dX12_turned_21 : decode cX12_turned 21 = .ok (.baload, 1) := by decide +kernel
theorem dX12_turned_22 : decode cX12_turned 22 = .ok (.invokevirtual 310, 3) := by decide +kernel
theorem dX12_turned_25 : decode cX12_turned 25 = .ok (.return_, 1) := by decide +kernel
theorem dX12_copy_0 : decode cX12_copy 0 = .ok (.aload_n 0, 1) := by decide +kernel
theorem dX12_copy_1 : decode cX12_copy 1 = .ok (.iload_n 1, 1) := by decide +kernel
theorem dX12_copy_2 : decode cX12_copy 2 = .ok (.aload_n 0, 1) := by decide +kernel
theorem dX12_copy_3 : decode cX12_copy 3 = .ok (.getfield 13, 3) := by decide +kernel
theorem dX12_copy_6 : decode cX12_copy 6 = .ok (.iload_n 2, 1) := by decide +kernel
theorem dX12_copy_7 : decode cX12_copy 7 = .ok (.laload, 1) := by decide +kernel
theorem dX12_copy_8 : decode cX12_copy 8 = .ok (.aload_n 0, 1) := by decide +kernel
theorem dX12_copy_9 : decode cX12_copy 9 = .ok (.getfield 17, 3) := by decide +kernel
theorem dX12_copy_12 : decode cX12_copy 12 = .ok (.iload_n 2, 1) := by decide +kernel
theorem dX12_copy_13 : decode cX12_copy 13 = .ok (.laload, 1) := by decide +kernel
theorem dX12_copy_14 : decode cX12_copy 14 = .ok (.aload_n 0, 1) := by decide +kernel
theorem dX12_copy_15 : decode cX12_copy 15 = .ok (.getfield 20, 3) := by decide +kernel
theorem dX12_copy_18 : decode cX12_copy 18 = .ok (.iload_n 2, 1) := by decide +kernel
theorem dX12_copy_19 : decode cX12_copy 19 = .ok (.baload, 1) := by decide +kernel
theorem dX12_copy_20 : decode cX12_copy 20 = .ok (.invokevirtual 310, 3) := by decide +kernel
theorem dX12_copy_23 : decode cX12_copy 23 = .ok (.return_, 1) := by decide +kernel
theorem dX12_multiply_0 : decode cX12_multiply 0 = .ok (.aload_n 0, 1) := by decide +kernel
theorem dX12_multiply_1 : decode cX12_multiply 1 = .ok (.getfield 13, 3) := by decide +kernel
theorem dX12_multiply_4 : decode cX12_multiply 4 = .ok (.iload_n 2, 1) := by decide +kernel
theorem dX12_multiply_5 : decode cX12_multiply 5 = .ok (.laload, 1) := by decide +kernel
theorem dX12_multiply_6 : decode cX12_multiply 6 = .ok (.aload_n 0, 1) := by decide +kernel
theorem dX12_multiply_7 : decode cX12_multiply 7 = .ok (.getfield 13, 3) := by decide +kernel
theorem dX12_multiply_10 : decode cX12_multiply 10 = .ok (.iload_n 3, 1) := by decide +kernel
theorem dX12_multiply_11 : decode cX12_multiply 11 = .ok (.laload, 1) := by decide +kernel
theorem dX12_multiply_12 : decode cX12_multiply 12 = .ok (.lmul, 1) := by decide +kernel
theorem dX12_multiply_13 : decode cX12_multiply 13 = .ok (.lstore 4, 2) := by decide +kernel
theorem dX12_multiply_15 : decode cX12_multiply 15 = .ok (.aload_n 0, 1) := by decide +kernel
theorem dX12_multiply_16 : decode cX12_multiply 16 = .ok (.getfield 13, 3) := by decide +kernel
theorem dX12_multiply_19 : decode cX12_multiply 19 = .ok (.iload_n 2, 1) := by decide +kernel
theorem dX12_multiply_20 : decode cX12_multiply 20 = .ok (.laload, 1) := by decide +kernel
theorem dX12_multiply_21 : decode cX12_multiply 21 = .ok (.aload_n 0, 1) := by decide +kernel
theorem dX12_multiply_22 : decode cX12_multiply 22 = .ok (.getfield 17, 3) := by decide +kernel
theorem dX12_multiply_25 : decode cX12_multiply 25 = .ok (.iload_n 3, 1) := by decide +kernel
theorem dX12_multiply_26 : decode cX12_multiply 26 = .ok (.laload, 1) := by decide +kernel
theorem dX12_multiply_27 : decode cX12_multiply 27 = .ok (.lmul, 1) := by decide +kernel
theorem dX12_multiply_28 : decode cX12_multiply 28 = .ok (.lstore 6, 2) := by decide +kernel
theorem dX12_multiply_30 : decode cX12_multiply 30 = .ok (.aload_n 0, 1) := by decide +kernel
theorem dX12_multiply_31 : decode cX12_multiply 31 = .ok (.getfield 17, 3) := by decide +kernel
theorem dX12_multiply_34 : decode cX12_multiply 34 = .ok (.iload_n 2, 1) := by decide +kernel
theorem dX12_multiply_35 : decode cX12_multiply 35 = .ok (.laload, 1) := by decide +kernel
theorem dX12_multiply_36 : decode cX12_multiply 36 = .ok (.aload_n 0, 1) := by decide +kernel
theorem dX12_multiply_37 : decode cX12_multiply 37 = .ok (.getfield 13, 3) := by decide +kernel
theorem dX12_multiply_40 : decode cX12_multiply 40 = .ok (.iload_n 3, 1) := by decide +kernel
theorem dX12_multiply_41 : decode cX12_multiply 41 = .ok (.laload, 1) := by decide +kernel
theorem dX12_multiply_42 : decode cX12_multiply 42 = .ok (.lmul, 1) := by decide +kernel
theorem dX12_multiply_43 : decode cX12_multiply 43 = .ok (.lstore 8, 2) := by decide +kernel
theorem dX12_multiply_45 : decode cX12_multiply 45 = .ok (.aload_n 0, 1) := by decide +kernel
theorem dX12_multiply_46 : decode cX12_multiply 46 = .ok (.getfield 17, 3) := by decide +kernel
theorem dX12_multiply_49 : decode cX12_multiply 49 = .ok (.iload_n 2, 1) := by decide +kernel
theorem dX12_multiply_50 : decode cX12_multiply 50 = .ok (.laload, 1) := by decide +kernel
theorem dX12_multiply_51 : decode cX12_multiply 51 = .ok (.aload_n 0, 1) := by decide +kernel
theorem dX12_multiply_52 : decode cX12_multiply 52 = .ok (.getfield 17, 3) := by decide +kernel
theorem dX12_multiply_55 : decode cX12_multiply 55 = .ok (.iload_n 3, 1) := by decide +kernel
theorem dX12_multiply_56 : decode cX12_multiply 56 = .ok (.laload, 1) := by decide +kernel
theorem dX12_multiply_57 : decode cX12_multiply 57 = .ok (.lmul, 1) := by decide +kernel
theorem dX12_multiply_58 : decode cX12_multiply 58 = .ok (.lstore 10, 2) := by decide +kernel
theorem dX12_multiply_60 : decode cX12_multiply 60 = .ok (.lload 4, 2) := by decide +kernel
theorem dX12_multiply_62 : decode cX12_multiply 62 = .ok (.lload 6, 2) := by decide +kernel
theorem dX12_multiply_64 : decode cX12_multiply 64 = .ok (.invokestatic 314, 3) := by decide +kernel
theorem dX12_multiply_67 : decode cX12_multiply 67 = .ok (.lload 8, 2) := by decide +kernel
theorem dX12_multiply_69 : decode cX12_multiply 69 = .ok (.lload 10, 2) := by decide +kernel
theorem dX12_multiply_71 : decode cX12_multiply 71 = .ok (.invokestatic 314, 3) := by decide +kernel
theorem dX12_multiply_74 : decode cX12_multiply 74 = .ok (.invokestatic 314, 3) := by decide +kernel
theorem dX12_multiply_77 : decode cX12_multiply 77 = .ok (.lstore 12, 2) := by decide +kernel
theorem dX12_multiply_79 : decode cX12_multiply 79 = .ok (.lload 4, 2) := by decide +kernel
theorem dX12_multiply_81 : decode cX12_multiply 81 = .ok (.lload 6, 2) := by decide +kernel
theorem dX12_multiply_83 : decode cX12_multiply 83 = .ok (.invokestatic 317, 3) := by decide +kernel
theorem dX12_multiply_86 : decode cX12_multiply 86 = .ok (.lload 8, 2) := by decide +kernel
theorem dX12_multiply_88 : decode cX12_multiply 88 = .ok (.lload 10, 2) := by decide +kernel
theorem dX12_multiply_90 : decode cX12_multiply 90 = .ok (.invokestatic 317, 3) := by decide +kernel
theorem dX12_multiply_93 : decode cX12_multiply 93 = .ok (.invokestatic 317, 3) := by decide +kernel
theorem dX12_multiply_96 : decode cX12_multiply 96 = .ok (.lstore 14, 2) := by decide +kernel
theorem dX12_multiply_98 : decode cX12_multiply 98 = .ok (.aload_n 0, 1) := by decide +kernel
theorem dX12_multiply_99 : decode cX12_multiply 99 = .ok (.iload_n 1, 1) := by decide +kernel
theorem dX12_multiply_100 : decode cX12_multiply 100 = .ok (.lload 12, 2) := by decide +kernel
theorem dX12_multiply_102 : decode cX12_multiply 102 = .ok (.ldc2_w 320, 3) := by decide +kernel
theorem dX12_multiply_105 : decode cX12_multiply 105 = .ok (.invokestatic 247, 3) := by decide +kernel
theorem dX12_multiply_108 : decode cX12_multiply 108 = .ok (.lload 14, 2) := by decide +kernel
theorem dX12_multiply_110 : decode cX12_multiply 110 = .ok (.ldc2_w 320, 3) := by decide +kernel
theorem dX12_multiply_113 : decode cX12_multiply 113 = .ok (.invokestatic 322, 3) := by decide +kernel
theorem dX12_multiply_116 : decode cX12_multiply 116 = .ok (.aload_n 0, 1) := by decide +kernel
theorem dX12_multiply_117 : decode cX12_multiply 117 = .ok (.getfield 20, 3) := by decide +kernel
theorem dX12_multiply_120 : decode cX12_multiply 120 = .ok (.iload_n 2, 1) := by decide +kernel
theorem dX12_multiply_121 : decode cX12_multiply 121 = .ok (.baload, 1) := by decide +kernel
theorem dX12_multiply_122 : decode cX12_multiply 122 = .ok (.ifCond .ne 12, 3) := by decide +kernel
theorem dX12_multiply_125 : decode cX12_multiply 125 = .ok (.aload_n 0, 1) := by decide +kernel
theorem dX12_multiply_126 : decode cX12_multiply 126 = .ok (.getfield 20, 3) := by decide +kernel
theorem dX12_multiply_129 : decode cX12_multiply 129 = .ok (.iload_n 3, 1) := by decide +kernel
theorem dX12_multiply_130 : decode cX12_multiply 130 = .ok (.baload, 1) := by decide +kernel
theorem dX12_multiply_131 : decode cX12_multiply 131 = .ok (.ifCond .eq 7, 3) := by decide +kernel
theorem dX12_multiply_134 : decode cX12_multiply 134 = .ok (.iconst 1, 1) := by decide +kernel
theorem dX12_multiply_135 : decode cX12_multiply 135 = .ok (.goto 4, 3) := by decide +kernel
theorem dX12_multiply_138 : decode cX12_multiply 138 = .ok (.iconst 0, 1) := by decide +kernel
theorem dX12_multiply_139 : decode cX12_multiply 139 = .ok (.invokevirtual 310, 3) := by decide +kernel
theorem dX12_multiply_142 : decode cX12_multiply 142 = .ok (.return_, 1) := by decide +kernel
theorem dX12_smaller_0 : decode cX12_smaller 0 = .ok (.lload_n 0, 1) := by decide +kernel
theorem dX12_smaller_1 : decode cX12_smaller 1 = .ok (.lload_n 2, 1) := by decide +kernel
theorem dX12_smaller_2 : decode cX12_smaller 2 = .ok (.lcmp, 1) := by decide +kernel
theorem dX12_smaller_3 : decode cX12_smaller 3 = .ok (.ifCond .ge 7, 3) := by decide +kernel
theorem dX12_smaller_6 : decode cX12_smaller 6 = .ok (.lload_n 0, 1) := by decide +kernel
theorem dX12_smaller_7 : decode cX12_smaller 7 = .ok (.goto 4, 3) := by decide +kernel
theorem dX12_smaller_10 : decode cX12_smaller 10 = .ok (.lload_n 2, 1) := by decide +kernel
theorem dX12_smaller_11 : decode cX12_smaller 11 = .ok (.lreturn, 1) := by decide +kernel
theorem dX12_most_0 : decode cX12_most 0 = .ok (.lload_n 0, 1) := by decide +kernel
theorem dX12_most_1 : decode cX12_most 1 = .ok (.lload_n 2, 1) := by decide +kernel
theorem dX12_most_2 : decode cX12_most 2 = .ok (.lcmp, 1) := by decide +kernel
theorem dX12_most_3 : decode cX12_most 3 = .ok (.ifCond .le 7, 3) := by decide +kernel
theorem dX12_most_6 : decode cX12_most 6 = .ok (.lload_n 0, 1) := by decide +kernel
theorem dX12_most_7 : decode cX12_most 7 = .ok (.goto 4, 3) := by decide +kernel
theorem dX12_most_10 : decode cX12_most 10 = .ok (.lload_n 2, 1) := by decide +kernel
theorem dX12_most_11 : decode cX12_most 11 = .ok (.lreturn, 1) := by decide +kernel
theorem dX12_square_0 : decode cX12_square 0 = .ok (.aload_n 0, 1) := by decide +kernel
theorem dX12_square_1 : decode cX12_square 1 = .ok (.getfield 13, 3) := by decide +kernel
theorem dX12_square_4 : decode cX12_square 4 = .ok (.iload_n 2, 1) := by decide +kernel
theorem dX12_square_5 : decode cX12_square 5 = .ok (.laload, 1) := by decide +kernel
theorem dX12_square_6 : decode cX12_square 6 = .ok (.aload_n 0, 1) := by decide +kernel
theorem dX12_square_7 : decode cX12_square 7 = .ok (.getfield 13, 3) := by decide +kernel
theorem dX12_square_10 : decode cX12_square 10 = .ok (.iload_n 2, 1) := by decide +kernel
theorem dX12_square_11 : decode cX12_square 11 = .ok (.laload, 1) := by decide +kernel
theorem dX12_square_12 : decode cX12_square 12 = .ok (.lmul, 1) := by decide +kernel
theorem dX12_square_13 : decode cX12_square 13 = .ok (.lstore_n 3, 1) := by decide +kernel
theorem dX12_square_14 : decode cX12_square 14 = .ok (.aload_n 0, 1) := by decide +kernel
theorem dX12_square_15 : decode cX12_square 15 = .ok (.getfield 17, 3) := by decide +kernel
theorem dX12_square_18 : decode cX12_square 18 = .ok (.iload_n 2, 1) := by decide +kernel
theorem dX12_square_19 : decode cX12_square 19 = .ok (.laload, 1) := by decide +kernel
theorem dX12_square_20 : decode cX12_square 20 = .ok (.aload_n 0, 1) := by decide +kernel
theorem dX12_square_21 : decode cX12_square 21 = .ok (.getfield 17, 3) := by decide +kernel
theorem dX12_square_24 : decode cX12_square 24 = .ok (.iload_n 2, 1) := by decide +kernel
theorem dX12_square_25 : decode cX12_square 25 = .ok (.laload, 1) := by decide +kernel
theorem dX12_square_26 : decode cX12_square 26 = .ok (.lmul, 1) := by decide +kernel
theorem dX12_square_27 : decode cX12_square 27 = .ok (.lstore 5, 2) := by decide +kernel
theorem dX12_square_29 : decode cX12_square 29 = .ok (.aload_n 0, 1) := by decide +kernel
theorem dX12_square_30 : decode cX12_square 30 = .ok (.getfield 13, 3) := by decide +kernel
theorem dX12_square_33 : decode cX12_square 33 = .ok (.iload_n 2, 1) := by decide +kernel
theorem dX12_square_34 : decode cX12_square 34 = .ok (.laload, 1) := by decide +kernel
theorem dX12_square_35 : decode cX12_square 35 = .ok (.lconst 0, 1) := by decide +kernel
theorem dX12_square_36 : decode cX12_square 36 = .ok (.lcmp, 1) := by decide +kernel
theorem dX12_square_37 : decode cX12_square 37 = .ok (.ifCond .gt 18, 3) := by decide +kernel
theorem dX12_square_40 : decode cX12_square 40 = .ok (.aload_n 0, 1) := by decide +kernel
theorem dX12_square_41 : decode cX12_square 41 = .ok (.getfield 17, 3) := by decide +kernel
theorem dX12_square_44 : decode cX12_square 44 = .ok (.iload_n 2, 1) := by decide +kernel
theorem dX12_square_45 : decode cX12_square 45 = .ok (.laload, 1) := by decide +kernel
theorem dX12_square_46 : decode cX12_square 46 = .ok (.lconst 0, 1) := by decide +kernel
theorem dX12_square_47 : decode cX12_square 47 = .ok (.lcmp, 1) := by decide +kernel
theorem dX12_square_48 : decode cX12_square 48 = .ok (.ifCond .lt 7, 3) := by decide +kernel
theorem dX12_square_51 : decode cX12_square 51 = .ok (.lconst 0, 1) := by decide +kernel
theorem dX12_square_52 : decode cX12_square 52 = .ok (.goto 9, 3) := by decide +kernel
theorem dX12_square_55 : decode cX12_square 55 = .ok (.lload_n 3, 1) := by decide +kernel
theorem dX12_square_56 : decode cX12_square 56 = .ok (.lload 5, 2) := by decide +kernel
theorem dX12_square_58 : decode cX12_square 58 = .ok (.invokestatic 314, 3) := by decide +kernel
theorem dX12_square_61 : decode cX12_square 61 = .ok (.lstore 7, 2) := by decide +kernel
theorem dX12_square_63 : decode cX12_square 63 = .ok (.aload_n 0, 1) := by decide +kernel
theorem dX12_square_64 : decode cX12_square 64 = .ok (.iload_n 1, 1) := by decide +kernel
theorem dX12_square_65 : decode cX12_square 65 = .ok (.lload 7, 2) := by decide +kernel
theorem dX12_square_67 : decode cX12_square 67 = .ok (.ldc2_w 320, 3) := by decide +kernel
theorem dX12_square_70 : decode cX12_square 70 = .ok (.invokestatic 247, 3) := by decide +kernel
theorem dX12_square_73 : decode cX12_square 73 = .ok (.lload_n 3, 1) := by decide +kernel
theorem dX12_square_74 : decode cX12_square 74 = .ok (.lload 5, 2) := by decide +kernel
theorem dX12_square_76 : decode cX12_square 76 = .ok (.invokestatic 317, 3) := by decide +kernel
theorem dX12_square_79 : decode cX12_square 79 = .ok (.ldc2_w 320, 3) := by decide +kernel
theorem dX12_square_82 : decode cX12_square 82 = .ok (.invokestatic 322, 3) := by decide +kernel
theorem dX12_square_85 : decode cX12_square 85 = .ok (.aload_n 0, 1) := by decide +kernel
theorem dX12_square_86 : decode cX12_square 86 = .ok (.getfield 20, 3) := by decide +kernel
theorem dX12_square_89 : decode cX12_square 89 = .ok (.iload_n 2, 1) := by decide +kernel
theorem dX12_square_90 : decode cX12_square 90 = .ok (.baload, 1) := by decide +kernel
theorem dX12_square_91 : decode cX12_square 91 = .ok (.invokevirtual 310, 3) := by decide +kernel
theorem dX12_square_94 : decode cX12_square 94 = .ok (.return_, 1) := by decide +kernel
theorem dX12_divide_0 : decode cX12_divide 0 = .ok (.aload_n 0, 1) := by decide +kernel
theorem dX12_divide_1 : decode cX12_divide 1 = .ok (.getfield 20, 3) := by decide +kernel
theorem dX12_divide_4 : decode cX12_divide 4 = .ok (.iload_n 2, 1) := by decide +kernel
theorem dX12_divide_5 : decode cX12_divide 5 = .ok (.baload, 1) := by decide +kernel
theorem dX12_divide_6 : decode cX12_divide 6 = .ok (.ifCond .ne 34, 3) := by decide +kernel
theorem dX12_divide_9 : decode cX12_divide 9 = .ok (.aload_n 0, 1) := by decide +kernel
theorem dX12_divide_10 : decode cX12_divide 10 = .ok (.getfield 20, 3) := by decide +kernel
theorem dX12_divide_13 : decode cX12_divide 13 = .ok (.iload_n 3, 1) := by decide +kernel
theorem dX12_divide_14 : decode cX12_divide 14 = .ok (.baload, 1) := by decide +kernel
