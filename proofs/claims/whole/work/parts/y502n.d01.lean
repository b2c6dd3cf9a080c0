theorem dX4_changePlaces_46 : decode cX4_changePlaces 46 = .ok (.getfield 36, 3) := by decide +kernel
theorem dX4_changePlaces_49 : decode cX4_changePlaces 49 = .ok (.iload_n 2, 1) := by decide +kernel
theorem dX4_changePlaces_50 : decode cX4_changePlaces 50 = .ok (.aload_n 3, 1) := by decide +kernel
theorem dX4_changePlaces_51 : decode cX4_changePlaces 51 = .ok (.aastore, 1) := by decide +kernel
theorem dX4_changePlaces_52 : decode cX4_changePlaces 52 = .ok (.return_, 1) := by decide +kernel
theorem dX4_isDivided_0 : decode cX4_isDivided 0 = .ok (.aload_n 0, 1) := by decide +kernel
theorem dX4_isDivided_1 : decode cX4_isDivided 1 = .ok (.getfield 33, 3) := by decide +kernel
theorem dX4_isDivided_4 : decode cX4_isDivided 4 = .ok (.iload_n 1, 1) := by decide +kernel
theorem dX4_isDivided_5 : decode cX4_isDivided 5 = .ok (.aaload, 1) := by decide +kernel
theorem dX4_isDivided_6 : decode cX4_isDivided 6 = .ok (.iload_n 2, 1) := by decide +kernel
theorem dX4_isDivided_7 : decode cX4_isDivided 7 = .ok (.laload, 1) := by decide +kernel
theorem dX4_isDivided_8 : decode cX4_isDivided 8 = .ok (.lconst 0, 1) := by decide +kernel
theorem dX4_isDivided_9 : decode cX4_isDivided 9 = .ok (.lcmp, 1) := by decide +kernel
theorem dX4_isDivided_10 : decode cX4_isDivided 10 = .ok (.ifCond .ge 15, 3) := by decide +kernel
theorem dX4_isDivided_13 : decode cX4_isDivided 13 = .ok (.aload_n 0, 1) := by decide +kernel
theorem dX4_isDivided_14 : decode cX4_isDivided 14 = .ok (.getfield 36, 3) := by decide +kernel
theorem dX4_isDivided_17 : decode cX4_isDivided 17 = .ok (.iload_n 1, 1) := by decide +kernel
theorem dX4_isDivided_18 : decode cX4_isDivided 18 = .ok (.aaload, 1) := by decide +kernel
theorem dX4_isDivided_19 : decode cX4_isDivided 19 = .ok (.iload_n 2, 1) := by decide +kernel
theorem dX4_isDivided_20 : decode cX4_isDivided 20 = .ok (.laload, 1) := by decide +kernel
theorem dX4_isDivided_21 : decode cX4_isDivided 21 = .ok (.lneg, 1) := by decide +kernel
theorem dX4_isDivided_22 : decode cX4_isDivided 22 = .ok (.goto 11, 3) := by decide +kernel
theorem dX4_isDivided_25 : decode cX4_isDivided 25 = .ok (.aload_n 0, 1) := by decide +kernel
theorem dX4_isDivided_26 : decode cX4_isDivided 26 = .ok (.getfield 36, 3) := by decide +kernel
theorem dX4_isDivided_29 : decode cX4_isDivided 29 = .ok (.iload_n 1, 1) := by decide +kernel
theorem dX4_isDivided_30 : decode cX4_isDivided 30 = .ok (.aaload, 1) := by decide +kernel
theorem dX4_isDivided_31 : decode cX4_isDivided 31 = .ok (.iload_n 2, 1) := by decide +kernel
theorem dX4_isDivided_32 : decode cX4_isDivided 32 = .ok (.laload, 1) := by decide +kernel
theorem dX4_isDivided_33 : decode cX4_isDivided 33 = .ok (.lstore_n 3, 1) := by decide +kernel
theorem dX4_isDivided_34 : decode cX4_isDivided 34 = .ok (.aload_n 0, 1) := by decide +kernel
theorem dX4_isDivided_35 : decode cX4_isDivided 35 = .ok (.getfield 33, 3) := by decide +kernel
theorem dX4_isDivided_38 : decode cX4_isDivided 38 = .ok (.iload_n 1, 1) := by decide +kernel
theorem dX4_isDivided_39 : decode cX4_isDivided 39 = .ok (.aaload, 1) := by decide +kernel
theorem dX4_isDivided_40 : decode cX4_isDivided 40 = .ok (.iload_n 2, 1) := by decide +kernel
theorem dX4_isDivided_41 : decode cX4_isDivided 41 = .ok (.laload, 1) := by decide +kernel
theorem dX4_isDivided_42 : decode cX4_isDivided 42 = .ok (.invokestatic 128, 3) := by decide +kernel
theorem dX4_isDivided_45 : decode cX4_isDivided 45 = .ok (.lstore 5, 2) := by decide +kernel
theorem dX4_isDivided_47 : decode cX4_isDivided 47 = .ok (.iconst 0, 1) := by decide +kernel
theorem dX4_isDivided_48 : decode cX4_isDivided 48 = .ok (.istore 7, 2) := by decide +kernel
theorem dX4_isDivided_50 : decode cX4_isDivided 50 = .ok (.iload 7, 2) := by decide +kernel
theorem dX4_isDivided_52 : decode cX4_isDivided 52 = .ok (.bipush 12, 2) := by decide +kernel
theorem dX4_isDivided_54 : decode cX4_isDivided 54 = .ok (.if_icmp .gt 49, 3) := by decide +kernel
theorem dX4_isDivided_57 : decode cX4_isDivided 57 = .ok (.aload_n 0, 1) := by decide +kernel
theorem dX4_isDivided_58 : decode cX4_isDivided 58 = .ok (.aload_n 0, 1) := by decide +kernel
theorem dX4_isDivided_59 : decode cX4_isDivided 59 = .ok (.getfield 52, 3) := by decide +kernel
theorem dX4_isDivided_62 : decode cX4_isDivided 62 = .ok (.iload_n 1, 1) := by decide +kernel
theorem dX4_isDivided_63 : decode cX4_isDivided 63 = .ok (.iload 7, 2) := by decide +kernel
theorem dX4_isDivided_65 : decode cX4_isDivided 65 = .ok (.invokevirtual 134, 3) := by decide +kernel
theorem dX4_isDivided_68 : decode cX4_isDivided 68 = .ok (.aload_n 0, 1) := by decide +kernel
theorem dX4_isDivided_69 : decode cX4_isDivided 69 = .ok (.getfield 52, 3) := by decide +kernel
theorem dX4_isDivided_72 : decode cX4_isDivided 72 = .ok (.lload_n 3, 1) := by decide +kernel
theorem dX4_isDivided_73 : decode cX4_isDivided 73 = .ok (.lload 5, 2) := by decide +kernel
theorem dX4_isDivided_75 : decode cX4_isDivided 75 = .ok (.invokevirtual 138, 3) := by decide +kernel
theorem dX4_isDivided_78 : decode cX4_isDivided 78 = .ok (.aload_n 0, 1) := by decide +kernel
theorem dX4_isDivided_79 : decode cX4_isDivided 79 = .ok (.getfield 52, 3) := by decide +kernel
theorem dX4_isDivided_82 : decode cX4_isDivided 82 = .ok (.getfield 109, 3) := by decide +kernel
theorem dX4_isDivided_85 : decode cX4_isDivided 85 = .ok (.ifCond .eq 5, 3) := by decide +kernel
theorem dX4_isDivided_88 : decode cX4_isDivided 88 = .ok (.iconst 0, 1) := by decide +kernel
theorem dX4_isDivided_89 : decode cX4_isDivided 89 = .ok (.ireturn, 1) := by decide +kernel
theorem dX4_isDivided_90 : decode cX4_isDivided 90 = .ok (.aload_n 0, 1) := by decide +kernel
theorem dX4_isDivided_91 : decode cX4_isDivided 91 = .ok (.iload_n 1, 1) := by decide +kernel
theorem dX4_isDivided_92 : decode cX4_isDivided 92 = .ok (.iload 7, 2) := by decide +kernel
theorem dX4_isDivided_94 : decode cX4_isDivided 94 = .ok (.invokevirtual 95, 3) := by decide +kernel
theorem dX4_isDivided_97 : decode cX4_isDivided 97 = .ok (.iinc 7 1, 3) := by decide +kernel
theorem dX4_isDivided_100 : decode cX4_isDivided 100 = .ok (.goto (-50), 3) := by decide +kernel
theorem dX4_isDivided_103 : decode cX4_isDivided 103 = .ok (.iconst 1, 1) := by decide +kernel
theorem dX4_isDivided_104 : decode cX4_isDivided 104 = .ok (.ireturn, 1) := by decide +kernel
theorem dX4_isTaken_0 : decode cX4_isTaken 0 = .ok (.aload_n 0, 1) := by decide +kernel
theorem dX4_isTaken_1 : decode cX4_isTaken 1 = .ok (.aload_n 0, 1) := by decide +kernel
theorem dX4_isTaken_2 : decode cX4_isTaken 2 = .ok (.getfield 45, 3) := by decide +kernel
theorem dX4_isTaken_5 : decode cX4_isTaken 5 = .ok (.iload_n 1, 1) := by decide +kernel
theorem dX4_isTaken_6 : decode cX4_isTaken 6 = .ok (.iload_n 3, 1) := by decide +kernel
theorem dX4_isTaken_7 : decode cX4_isTaken 7 = .ok (.invokevirtual 134, 3) := by decide +kernel
theorem dX4_isTaken_10 : decode cX4_isTaken 10 = .ok (.iconst 0, 1) := by decide +kernel
theorem dX4_isTaken_11 : decode cX4_isTaken 11 = .ok (.istore 4, 2) := by decide +kernel
theorem dX4_isTaken_13 : decode cX4_isTaken 13 = .ok (.iload 4, 2) := by decide +kernel
theorem dX4_isTaken_15 : decode cX4_isTaken 15 = .ok (.bipush 12, 2) := by decide +kernel
theorem dX4_isTaken_17 : decode cX4_isTaken 17 = .ok (.if_icmp .gt 121, 3) := by decide +kernel
theorem dX4_isTaken_20 : decode cX4_isTaken 20 = .ok (.aload_n 0, 1) := by decide +kernel
theorem dX4_isTaken_21 : decode cX4_isTaken 21 = .ok (.getfield 33, 3) := by decide +kernel
theorem dX4_isTaken_24 : decode cX4_isTaken 24 = .ok (.iload_n 2, 1) := by decide +kernel
theorem dX4_isTaken_25 : decode cX4_isTaken 25 = .ok (.aaload, 1) := by decide +kernel
theorem dX4_isTaken_26 : decode cX4_isTaken 26 = .ok (.iload 4, 2) := by decide +kernel
theorem dX4_isTaken_28 : decode cX4_isTaken 28 = .ok (.laload, 1) := by decide +kernel
theorem dX4_isTaken_29 : decode cX4_isTaken 29 = .ok (.lconst 0, 1) := by decide +kernel
theorem dX4_isTaken_30 : decode cX4_isTaken 30 = .ok (.lcmp, 1) := by decide +kernel
theorem dX4_isTaken_31 : decode cX4_isTaken 31 = .ok (.ifCond .eq 101, 3) := by decide +kernel
theorem dX4_isTaken_34 : decode cX4_isTaken 34 = .ok (.aload_n 0, 1) := by decide +kernel
theorem dX4_isTaken_35 : decode cX4_isTaken 35 = .ok (.getfield 49, 3) := by decide +kernel
theorem dX4_isTaken_38 : decode cX4_isTaken 38 = .ok (.aload_n 0, 1) := by decide +kernel
theorem dX4_isTaken_39 : decode cX4_isTaken 39 = .ok (.getfield 45, 3) := by decide +kernel
theorem dX4_isTaken_42 : decode cX4_isTaken 42 = .ok (.invokevirtual 141, 3) := by decide +kernel
theorem dX4_isTaken_45 : decode cX4_isTaken 45 = .ok (.aload_n 0, 1) := by decide +kernel
theorem dX4_isTaken_46 : decode cX4_isTaken 46 = .ok (.getfield 49, 3) := by decide +kernel
theorem dX4_isTaken_49 : decode cX4_isTaken 49 = .ok (.aload_n 0, 1) := by decide +kernel
theorem dX4_isTaken_50 : decode cX4_isTaken 50 = .ok (.getfield 33, 3) := by decide +kernel
theorem dX4_isTaken_53 : decode cX4_isTaken 53 = .ok (.iload_n 2, 1) := by decide +kernel
theorem dX4_isTaken_54 : decode cX4_isTaken 54 = .ok (.aaload, 1) := by decide +kernel
theorem dX4_isTaken_55 : decode cX4_isTaken 55 = .ok (.iload 4, 2) := by decide +kernel
theorem dX4_isTaken_57 : decode cX4_isTaken 57 = .ok (.laload, 1) := by decide +kernel
theorem dX4_isTaken_58 : decode cX4_isTaken 58 = .ok (.aload_n 0, 1) := by decide +kernel
theorem dX4_isTaken_59 : decode cX4_isTaken 59 = .ok (.getfield 36, 3) := by decide +kernel
theorem dX4_isTaken_62 : decode cX4_isTaken 62 = .ok (.iload_n 2, 1) := by decide +kernel
theorem dX4_isTaken_63 : decode cX4_isTaken 63 = .ok (.aaload, 1) := by decide +kernel
theorem dX4_isTaken_64 : decode cX4_isTaken 64 = .ok (.iload 4, 2) := by decide +kernel
theorem dX4_isTaken_66 : decode cX4_isTaken 66 = .ok (.laload, 1) := by decide +kernel
theorem dX4_isTaken_67 : decode cX4_isTaken 67 = .ok (.invokevirtual 138, 3) := by decide +kernel
theorem dX4_isTaken_70 : decode cX4_isTaken 70 = .ok (.aload_n 0, 1) := by decide +kernel
theorem dX4_isTaken_71 : decode cX4_isTaken 71 = .ok (.aload_n 0, 1) := by decide +kernel
theorem dX4_isTaken_72 : decode cX4_isTaken 72 = .ok (.getfield 52, 3) := by decide +kernel
theorem dX4_isTaken_75 : decode cX4_isTaken 75 = .ok (.iload_n 1, 1) := by decide +kernel
theorem dX4_isTaken_76 : decode cX4_isTaken 76 = .ok (.iload 4, 2) := by decide +kernel
theorem dX4_isTaken_78 : decode cX4_isTaken 78 = .ok (.invokevirtual 134, 3) := by decide +kernel
theorem dX4_isTaken_81 : decode cX4_isTaken 81 = .ok (.aload_n 0, 1) := by decide +kernel
theorem dX4_isTaken_82 : decode cX4_isTaken 82 = .ok (.getfield 52, 3) := by decide +kernel
theorem dX4_isTaken_85 : decode cX4_isTaken 85 = .ok (.aload_n 0, 1) := by decide +kernel
theorem dX4_isTaken_86 : decode cX4_isTaken 86 = .ok (.getfield 49, 3) := by decide +kernel
theorem dX4_isTaken_89 : decode cX4_isTaken 89 = .ok (.getfield 102, 3) := by decide +kernel
theorem dX4_isTaken_92 : decode cX4_isTaken 92 = .ok (.lneg, 1) := by decide +kernel
theorem dX4_isTaken_93 : decode cX4_isTaken 93 = .ok (.aload_n 0, 1) := by decide +kernel
theorem dX4_isTaken_94 : decode cX4_isTaken 94 = .ok (.getfield 49, 3) := by decide +kernel
theorem dX4_isTaken_97 : decode cX4_isTaken 97 = .ok (.getfield 106, 3) := by decide +kernel
theorem dX4_isTaken_100 : decode cX4_isTaken 100 = .ok (.invokevirtual 145, 3) := by decide +kernel
theorem dX4_isTaken_103 : decode cX4_isTaken 103 = .ok (.aload_n 0, 1) := by decide +kernel
theorem dX4_isTaken_104 : decode cX4_isTaken 104 = .ok (.getfield 49, 3) := by decide +kernel
theorem dX4_isTaken_107 : decode cX4_isTaken 107 = .ok (.getfield 109, 3) := by decide +kernel
theorem dX4_isTaken_110 : decode cX4_isTaken 110 = .ok (.ifCond .ne 13, 3) := by decide +kernel
theorem dX4_isTaken_113 : decode cX4_isTaken 113 = .ok (.aload_n 0, 1) := by decide +kernel
theorem dX4_isTaken_114 : decode cX4_isTaken 114 = .ok (.getfield 52, 3) := by decide +kernel
theorem dX4_isTaken_117 : decode cX4_isTaken 117 = .ok (.getfield 109, 3) := by decide +kernel
theorem dX4_isTaken_120 : decode cX4_isTaken 120 = .ok (.ifCond .eq 5, 3) := by decide +kernel
theorem dX4_isTaken_123 : decode cX4_isTaken 123 = .ok (.iconst 0, 1) := by decide +kernel
theorem dX4_isTaken_124 : decode cX4_isTaken 124 = .ok (.ireturn, 1) := by decide +kernel
theorem dX4_isTaken_125 : decode cX4_isTaken 125 = .ok (.aload_n 0, 1) := by decide +kernel
theorem dX4_isTaken_126 : decode cX4_isTaken 126 = .ok (.iload_n 1, 1) := by decide +kernel
theorem dX4_isTaken_127 : decode cX4_isTaken 127 = .ok (.iload 4, 2) := by decide +kernel
theorem dX4_isTaken_129 : decode cX4_isTaken 129 = .ok (.invokevirtual 95, 3) := by decide +kernel
theorem dX4_isTaken_132 : decode cX4_isTaken 132 = .ok (.iinc 4 1, 3) := by decide +kernel
theorem dX4_isTaken_135 : decode cX4_isTaken 135 = .ok (.goto (-122), 3) := by decide +kernel
theorem dX4_isTaken_138 : decode cX4_isTaken 138 = .ok (.iconst 1, 1) := by decide +kernel
theorem dX4_isTaken_139 : decode cX4_isTaken 139 = .ok (.ireturn, 1) := by decide +kernel
theorem dX4_contradicts_0 : decode cX4_contradicts 0 = .ok (.iconst 0, 1) := by decide +kernel
theorem dX4_contradicts_1 : decode cX4_contradicts 1 = .ok (.istore_n 1, 1) := by decide +kernel
theorem dX4_contradicts_2 : decode cX4_contradicts 2 = .ok (.iload_n 1, 1) := by decide +kernel
theorem dX4_contradicts_3 : decode cX4_contradicts 3 = .ok (.aload_n 0, 1) := by decide +kernel
theorem dX4_contradicts_4 : decode cX4_contradicts 4 = .ok (.getfield 81, 3) := by decide +kernel
theorem dX4_contradicts_7 : decode cX4_contradicts 7 = .ok (.if_icmp .ge 34, 3) := by decide +kernel
theorem dX4_contradicts_10 : decode cX4_contradicts 10 = .ok (.aload_n 0, 1) := by decide +kernel
theorem dX4_contradicts_11 : decode cX4_contradicts 11 = .ok (.getfield 33, 3) := by decide +kernel
theorem dX4_contradicts_14 : decode cX4_contradicts 14 = .ok (.iload_n 1, 1) := by decide +kernel
theorem dX4_contradicts_15 : decode cX4_contradicts 15 = .ok (.aaload, 1) := by decide +kernel
theorem dX4_contradicts_16 : decode cX4_contradicts 16 = .ok (.bipush 12, 2) := by decide +kernel
theorem dX4_contradicts_18 : decode cX4_contradicts 18 = .ok (.laload, 1) := by decide +kernel
theorem dX4_contradicts_19 : decode cX4_contradicts 19 = .ok (.lconst 0, 1) := by decide +kernel
theorem dX4_contradicts_20 : decode cX4_contradicts 20 = .ok (.lcmp, 1) := by decide +kernel
theorem dX4_contradicts_21 : decode cX4_contradicts 21 = .ok (.ifCond .eq 14, 3) := by decide +kernel
theorem dX4_contradicts_24 : decode cX4_contradicts 24 = .ok (.aload_n 0, 1) := by decide +kernel
theorem dX4_contradicts_25 : decode cX4_contradicts 25 = .ok (.iload_n 1, 1) := by decide +kernel
theorem dX4_contradicts_26 : decode cX4_contradicts 26 = .ok (.iconst (-1), 1) := by decide +kernel
theorem dX4_contradicts_27 : decode cX4_contradicts 27 = .ok (.invokevirtual 148, 3) := by decide +kernel
theorem dX4_contradicts_30 : decode cX4_contradicts 30 = .ok (.ifCond .eq 5, 3) := by decide +kernel
theorem dX4_contradicts_33 : decode cX4_contradicts 33 = .ok (.iconst 1, 1) := by decide +kernel
theorem dX4_contradicts_34 : decode cX4_contradicts 34 = .ok (.ireturn, 1) := by decide +kernel
theorem dX4_contradicts_35 : decode cX4_contradicts 35 = .ok (.iinc 1 1, 3) := by decide +kernel
theorem dX4_contradicts_38 : decode cX4_contradicts 38 = .ok (.goto (-36), 3) := by decide +kernel
theorem dX4_contradicts_41 : decode cX4_contradicts 41 = .ok (.iconst 0, 1) := by decide +kernel
theorem dX4_contradicts_42 : decode cX4_contradicts 42 = .ok (.ireturn, 1) := by decide +kernel
theorem dX4_othersAreZero_0 : decode cX4_othersAreZero 0 = .ok (.iconst 0, 1) := by decide +kernel
theorem dX4_othersAreZero_1 : decode cX4_othersAreZero 1 = .ok (.istore_n 3, 1) := by decide +kernel
theorem dX4_othersAreZero_2 : decode cX4_othersAreZero 2 = .ok (.iload_n 3, 1) := by decide +kernel
theorem dX4_othersAreZero_3 : decode cX4_othersAreZero 3 = .ok (.bipush 12, 2) := by decide +kernel
theorem dX4_othersAreZero_5 : decode cX4_othersAreZero 5 = .ok (.if_icmp .ge 29, 3) := by decide +kernel
theorem dX4_othersAreZero_8 : decode cX4_othersAreZero 8 = .ok (.iload_n 3, 1) := by decide +kernel
theorem dX4_othersAreZero_9 : decode cX4_othersAreZero 9 = .ok (.iload_n 2, 1) := by decide +kernel
theorem dX4_othersAreZero_10 : decode cX4_othersAreZero 10 = .ok (.if_icmp .eq 18, 3) := by decide +kernel
theorem dX4_othersAreZero_13 : decode cX4_othersAreZero 13 = .ok (.aload_n 0, 1) := by decide +kernel
theorem dX4_othersAreZero_14 : decode cX4_othersAreZero 14 = .ok (.getfield 33, 3) := by decide +kernel
theorem dX4_othersAreZero_17 : decode cX4_othersAreZero 17 = .ok (.iload_n 1, 1) := by decide +kernel
theorem dX4_othersAreZero_18 : decode cX4_othersAreZero 18 = .ok (.aaload, 1) := by decide +kernel
theorem dX4_othersAreZero_19 : decode cX4_othersAreZero 19 = .ok (.iload_n 3, 1) := by decide +kernel
theorem dX4_othersAreZero_20 : decode cX4_othersAreZero 20 = .ok (.laload, 1) := by decide +kernel
theorem dX4_othersAreZero_21 : decode cX4_othersAreZero 21 = .ok (.lconst 0, 1) := by decide +kernel
theorem dX4_othersAreZero_22 : decode cX4_othersAreZero 22 = .ok (.lcmp, 1) := by decide +kernel
theorem dX4_othersAreZero_23 : decode cX4_othersAreZero 23 = .ok (.ifCond .eq 5, 3) := by decide +kernel
theorem dX4_othersAreZero_26 : decode cX4_othersAreZero 26 = .ok (.iconst 0, 1) := by decide +kernel
theorem dX4_othersAreZero_27 : decode cX4_othersAreZero 27 = .ok (.ireturn, 1) := by decide +kernel
theorem dX4_othersAreZero_28 : decode cX4_othersAreZero 28 = .ok (.iinc 3 1, 3) := by decide +kernel
theorem dX4_othersAreZero_31 : decode cX4_othersAreZero 31 = .ok (.goto (-29), 3) := by decide +kernel
theorem dX4_othersAreZero_34 : decode cX4_othersAreZero 34 = .ok (.iconst 1, 1) := by decide +kernel
theorem dX4_othersAreZero_35 : decode cX4_othersAreZero 35 = .ok (.ireturn, 1) := by decide +kernel
theorem dX4_isKnown_0 : decode cX4_isKnown 0 = .ok (.aload_n 0, 1) := by decide +kernel
theorem dX4_isKnown_1 : decode cX4_isKnown 1 = .ok (.getfield 39, 3) := by decide +kernel
theorem dX4_isKnown_4 : decode cX4_isKnown 4 = .ok (.iload_n 1, 1) := by decide +kernel
theorem dX4_isKnown_5 : decode cX4_isKnown 5 = .ok (.iaload, 1) := by decide +kernel
theorem dX4_isKnown_6 : decode cX4_isKnown 6 = .ok (.istore_n 3, 1) := by decide +kernel
theorem dX4_isKnown_7 : decode cX4_isKnown 7 = .ok (.iload_n 3, 1) := by decide +kernel
theorem dX4_isKnown_8 : decode cX4_isKnown 8 = .ok (.ifCond .lt 12, 3) := by decide +kernel
theorem dX4_isKnown_11 : decode cX4_isKnown 11 = .ok (.aload_n 0, 1) := by decide +kernel
theorem dX4_isKnown_12 : decode cX4_isKnown 12 = .ok (.iload_n 3, 1) := by decide +kernel
theorem dX4_isKnown_13 : decode cX4_isKnown 13 = .ok (.iload_n 1, 1) := by decide +kernel
theorem dX4_isKnown_14 : decode cX4_isKnown 14 = .ok (.invokevirtual 148, 3) := by decide +kernel
theorem dX4_isKnown_17 : decode cX4_isKnown 17 = .ok (.ifCond .ne 5, 3) := by decide +kernel
theorem dX4_isKnown_20 : decode cX4_isKnown 20 = .ok (.iconst 0, 1) := by decide +kernel
theorem dX4_isKnown_21 : decode cX4_isKnown 21 = .ok (.ireturn, 1) := by decide +kernel
theorem dX4_isKnown_22 : decode cX4_isKnown 22 = .ok (.aload_n 0, 1) := by decide +kernel
theorem dX4_isKnown_23 : decode cX4_isKnown 23 = .ok (.aload_n 2, 1) := by decide +kernel
theorem dX4_isKnown_24 : decode cX4_isKnown 24 = .ok (.iload_n 3, 1) := by decide +kernel
theorem dX4_isKnown_25 : decode cX4_isKnown 25 = .ok (.bipush 12, 2) := by decide +kernel
theorem dX4_isKnown_27 : decode cX4_isKnown 27 = .ok (.invokevirtual 134, 3) := by decide +kernel
theorem dX4_isKnown_30 : decode cX4_isKnown 30 = .ok (.iconst 1, 1) := by decide +kernel
theorem dX4_isKnown_31 : decode cX4_isKnown 31 = .ok (.ireturn, 1) := by decide +kernel
theorem dX4_clash_0 : decode cX4_clash 0 = .ok (.aload_n 0, 1) := by decide +kernel
theorem dX4_clash_1 : decode cX4_clash 1 = .ok (.getfield 9, 3) := by decide +kernel
theorem dX4_clash_4 : decode cX4_clash 4 = .ok (.iload_n 1, 1) := by decide +kernel
theorem dX4_clash_5 : decode cX4_clash 5 = .ok (.iaload, 1) := by decide +kernel
theorem dX4_clash_6 : decode cX4_clash 6 = .ok (.aload_n 0, 1) := by decide +kernel
theorem dX4_clash_7 : decode cX4_clash 7 = .ok (.getfield 9, 3) := by decide +kernel
theorem dX4_clash_10 : decode cX4_clash 10 = .ok (.iload_n 2, 1) := by decide +kernel
theorem dX4_clash_11 : decode cX4_clash 11 = .ok (.iaload, 1) := by decide +kernel
theorem dX4_clash_12 : decode cX4_clash 12 = .ok (.invokestatic 151, 3) := by decide +kernel
theorem dX4_clash_15 : decode cX4_clash 15 = .ok (.i2l, 1) := by decide +kernel
theorem dX4_clash_16 : decode cX4_clash 16 = .ok (.lstore 4, 2) := by decide +kernel
theorem dX4_clash_18 : decode cX4_clash 18 = .ok (.aload_n 0, 1) := by decide +kernel
theorem dX4_clash_19 : decode cX4_clash 19 = .ok (.getfield 9, 3) := by decide +kernel
theorem dX4_clash_22 : decode cX4_clash 22 = .ok (.iload_n 1, 1) := by decide +kernel
theorem dX4_clash_23 : decode cX4_clash 23 = .ok (.iaload, 1) := by decide +kernel
theorem dX4_clash_24 : decode cX4_clash 24 = .ok (.aload_n 0, 1) := by decide +kernel
theorem dX4_clash_25 : decode cX4_clash 25 = .ok (.getfield 9, 3) := by decide +kernel
theorem dX4_clash_28 : decode cX4_clash 28 = .ok (.iload_n 2, 1) := by decide +kernel
theorem dX4_clash_29 : decode cX4_clash 29 = .ok (.iaload, 1) := by decide +kernel
theorem dX4_clash_30 : decode cX4_clash 30 = .ok (.invokestatic 154, 3) := by decide +kernel
theorem dX4_clash_33 : decode cX4_clash 33 = .ok (.i2l, 1) := by decide +kernel
theorem dX4_clash_34 : decode cX4_clash 34 = .ok (.lstore 6, 2) := by decide +kernel
theorem dX4_clash_36 : decode cX4_clash 36 = .ok (.lload 4, 2) := by decide +kernel
theorem dX4_clash_38 : decode cX4_clash 38 = .ok (.ldc2_w 157, 3) := by decide +kernel
theorem dX4_clash_41 : decode cX4_clash 41 = .ok (.lmul, 1) := by decide +kernel
theorem dX4_clash_42 : decode cX4_clash 42 = .ok (.ldc2_w 159, 3) := by decide +kernel
theorem dX4_clash_45 : decode cX4_clash 45 = .ok (.lcmp, 1) := by decide +kernel
theorem dX4_clash_46 : decode cX4_clash 46 = .ok (.ifCond .ge 7, 3) := by decide +kernel
theorem dX4_clash_49 : decode cX4_clash 49 = .ok (.iconst 1, 1) := by decide +kernel
theorem dX4_clash_50 : decode cX4_clash 50 = .ok (.goto 4, 3) := by decide +kernel
theorem dX4_clash_53 : decode cX4_clash 53 = .ok (.iconst 0, 1) := by decide +kernel
theorem dX4_clash_54 : decode cX4_clash 54 = .ok (.istore 8, 2) := by decide +kernel
theorem dX4_clash_56 : decode cX4_clash 56 = .ok (.iload_n 3, 1) := by decide +kernel
theorem dX4_clash_57 : decode cX4_clash 57 = .ok (.ifCond .eq 28, 3) := by decide +kernel
theorem dX4_clash_60 : decode cX4_clash 60 = .ok (.iload 8, 2) := by decide +kernel
theorem dX4_clash_62 : decode cX4_clash 62 = .ok (.ifCond .eq 5, 3) := by decide +kernel
theorem dX4_clash_65 : decode cX4_clash 65 = .ok (.iconst 1, 1) := by decide +kernel
theorem dX4_clash_66 : decode cX4_clash 66 = .ok (.ireturn, 1) := by decide +kernel
theorem dX4_clash_67 : decode cX4_clash 67 = .ok (.lload 6, 2) := by decide +kernel
theorem dX4_clash_69 : decode cX4_clash 69 = .ok (.lload 4, 2) := by decide +kernel
theorem dX4_clash_71 : decode cX4_clash 71 = .ok (.lsub, 1) := by decide +kernel
theorem dX4_clash_72 : decode cX4_clash 72 = .ok (.ldc2_w 161, 3) := by decide +kernel
theorem dX4_clash_75 : decode cX4_clash 75 = .ok (.lcmp, 1) := by decide +kernel
theorem dX4_clash_76 : decode cX4_clash 76 = .ok (.ifCond .ge 7, 3) := by decide +kernel
theorem dX4_clash_79 : decode cX4_clash 79 = .ok (.iconst 2, 1) := by decide +kernel
theorem dX4_clash_80 : decode cX4_clash 80 = .ok (.goto 4, 3) := by decide +kernel
theorem dX4_clash_83 : decode cX4_clash 83 = .ok (.iconst 0, 1) := by decide +kernel
theorem dX4_clash_84 : decode cX4_clash 84 = .ok (.ireturn, 1) := by decide +kernel
theorem dX4_clash_85 : decode cX4_clash 85 = .ok (.iload 8, 2) := by decide +kernel
theorem dX4_clash_87 : decode cX4_clash 87 = .ok (.ifCond .ne 5, 3) := by decide +kernel
theorem dX4_clash_90 : decode cX4_clash 90 = .ok (.iconst 0, 1) := by decide +kernel
theorem dX4_clash_91 : decode cX4_clash 91 = .ok (.ireturn, 1) := by decide +kernel
theorem dX4_clash_92 : decode cX4_clash 92 = .ok (.lload 6, 2) := by decide +kernel
theorem dX4_clash_94 : decode cX4_clash 94 = .ok (.ldc2_w 163, 3) := by decide +kernel
theorem dX4_clash_97 : decode cX4_clash 97 = .ok (.ldc2_w 165, 3) := by decide +kernel
theorem dX4_clash_100 : decode cX4_clash 100 = .ok (.lload 4, 2) := by decide +kernel
theorem dX4_clash_102 : decode cX4_clash 102 = .ok (.lmul, 1) := by decide +kernel
theorem dX4_clash_103 : decode cX4_clash 103 = .ok (.ldc2_w 157, 3) := by decide +kernel
theorem dX4_clash_106 : decode cX4_clash 106 = .ok (.lmul, 1) := by decide +kernel
theorem dX4_clash_107 : decode cX4_clash 107 = .ok (.lsub, 1) := by decide +kernel
theorem dX4_clash_108 : decode cX4_clash 108 = .ok (.lmul, 1) := by decide +kernel
theorem dX4_clash_109 : decode cX4_clash 109 = .ok (.lload 4, 2) := by decide +kernel
theorem dX4_clash_111 : decode cX4_clash 111 = .ok (.lload 4, 2) := by decide +kernel
theorem dX4_clash_113 : decode cX4_clash 113 = .ok (.lmul, 1) := by decide +kernel
theorem dX4_clash_114 : decode cX4_clash 114 = .ok (.ldc2_w 157, 3) := by decide +kernel
theorem dX4_clash_117 : decode cX4_clash 117 = .ok (.lmul, 1) := by decide +kernel
theorem dX4_clash_118 : decode cX4_clash 118 = .ok (.ldc2_w 163, 3) := by decide +kernel
theorem dX4_clash_121 : decode cX4_clash 121 = .ok (.lsub, 1) := by decide +kernel
theorem dX4_clash_122 : decode cX4_clash 122 = .ok (.lcmp, 1) := by decide +kernel
theorem dX4_clash_123 : decode cX4_clash 123 = .ok (.ifCond .le 7, 3) := by decide +kernel
theorem dX4_clash_126 : decode cX4_clash 126 = .ok (.iconst 2, 1) := by decide +kernel
theorem dX4_clash_127 : decode cX4_clash 127 = .ok (.goto 4, 3) := by decide +kernel
theorem dX4_clash_130 : decode cX4_clash 130 = .ok (.iconst 1, 1) := by decide +kernel
theorem dX4_clash_131 : decode cX4_clash 131 = .ok (.ireturn, 1) := by decide +kernel
theorem dX4_findTrains_0 : decode cX4_findTrains 0 = .ok (.iconst 0, 1) := by decide +kernel
theorem dX4_findTrains_1 : decode cX4_findTrains 1 = .ok (.istore 5, 2) := by decide +kernel
theorem dX4_findTrains_3 : decode cX4_findTrains 3 = .ok (.aload_n 0, 1) := by decide +kernel
theorem dX4_findTrains_4 : decode cX4_findTrains 4 = .ok (.iconst 0, 1) := by decide +kernel
theorem dX4_findTrains_5 : decode cX4_findTrains 5 = .ok (.putfield 167, 3) := by decide +kernel
theorem dX4_findTrains_8 : decode cX4_findTrains 8 = .ok (.iload_n 3, 1) := by decide +kernel
theorem dX4_findTrains_9 : decode cX4_findTrains 9 = .ok (.istore 6, 2) := by decide +kernel
theorem dX4_findTrains_11 : decode cX4_findTrains 11 = .ok (.iload 6, 2) := by decide +kernel
theorem dX4_findTrains_13 : decode cX4_findTrains 13 = .ok (.iload 4, 2) := by decide +kernel
theorem dX4_findTrains_15 : decode cX4_findTrains 15 = .ok (.if_icmp .gt 66, 3) := by decide +kernel
theorem dX4_findTrains_18 : decode cX4_findTrains 18 = .ok (.iload_n 1, 1) := by decide +kernel
theorem dX4_findTrains_19 : decode cX4_findTrains 19 = .ok (.ifCond .le 62, 3) := by decide +kernel
theorem dX4_findTrains_22 : decode cX4_findTrains 22 = .ok (.iload 6, 2) := by decide +kernel
theorem dX4_findTrains_24 : decode cX4_findTrains 24 = .ok (.istore 7, 2) := by decide +kernel
theorem dX4_findTrains_26 : decode cX4_findTrains 26 = .ok (.iload 7, 2) := by decide +kernel
theorem dX4_findTrains_28 : decode cX4_findTrains 28 = .ok (.iload 4, 2) := by decide +kernel
theorem dX4_findTrains_30 : decode cX4_findTrains 30 = .ok (.if_icmp .gt 45, 3) := by decide +kernel
theorem dX4_findTrains_33 : decode cX4_findTrains 33 = .ok (.iload 6, 2) := by decide +kernel
theorem dX4_findTrains_35 : decode cX4_findTrains 35 = .ok (.iload 7, 2) := by decide +kernel
theorem dX4_findTrains_37 : decode cX4_findTrains 37 = .ok (.imul, 1) := by decide +kernel
theorem dX4_findTrains_38 : decode cX4_findTrains 38 = .ok (.iload_n 2, 1) := by decide +kernel
theorem dX4_findTrains_39 : decode cX4_findTrains 39 = .ok (.imul, 1) := by decide +kernel
theorem dX4_findTrains_40 : decode cX4_findTrains 40 = .ok (.istore 8, 2) := by decide +kernel
theorem dX4_findTrains_42 : decode cX4_findTrains 42 = .ok (.iload 8, 2) := by decide +kernel
theorem dX4_findTrains_44 : decode cX4_findTrains 44 = .ok (.iload_n 1, 1) := by decide +kernel
theorem dX4_findTrains_45 : decode cX4_findTrains 45 = .ok (.irem, 1) := by decide +kernel
theorem dX4_findTrains_46 : decode cX4_findTrains 46 = .ok (.ifCond .ne 23, 3) := by decide +kernel
theorem dX4_findTrains_49 : decode cX4_findTrains 49 = .ok (.iload 5, 2) := by decide +kernel
theorem dX4_findTrains_51 : decode cX4_findTrains 51 = .ok (.aload_n 0, 1) := by decide +kernel
theorem dX4_findTrains_52 : decode cX4_findTrains 52 = .ok (.iload 6, 2) := by decide +kernel
theorem dX4_findTrains_54 : decode cX4_findTrains 54 = .ok (.iload 7, 2) := by decide +kernel
theorem dX4_findTrains_56 : decode cX4_findTrains 56 = .ok (.iload 8, 2) := by decide +kernel
theorem dX4_findTrains_58 : decode cX4_findTrains 58 = .ok (.iload_n 1, 1) := by decide +kernel
theorem dX4_findTrains_59 : decode cX4_findTrains 59 = .ok (.idiv, 1) := by decide +kernel
theorem dX4_findTrains_60 : decode cX4_findTrains 60 = .ok (.iload_n 3, 1) := by decide +kernel
theorem dX4_findTrains_61 : decode cX4_findTrains 61 = .ok (.iload 4, 2) := by decide +kernel
theorem dX4_findTrains_63 : decode cX4_findTrains 63 = .ok (.invokevirtual 170, 3) := by decide +kernel
theorem dX4_findTrains_66 : decode cX4_findTrains 66 = .ok (.iadd, 1) := by decide +kernel
theorem dX4_findTrains_67 : decode cX4_findTrains 67 = .ok (.istore 5, 2) := by decide +kernel
theorem dX4_findTrains_69 : decode cX4_findTrains 69 = .ok (.iinc 7 1, 3) := by decide +kernel
theorem dX4_findTrains_72 : decode cX4_findTrains 72 = .ok (.goto (-46), 3) := by decide +kernel
theorem dX4_findTrains_75 : decode cX4_findTrains 75 = .ok (.iinc 6 1, 3) := by decide +kernel
theorem dX4_findTrains_78 : decode cX4_findTrains 78 = .ok (.goto (-67), 3) := by decide +kernel
theorem dX4_findTrains_81 : decode cX4_findTrains 81 = .ok (.iload 5, 2) := by decide +kernel
theorem dX4_findTrains_83 : decode cX4_findTrains 83 = .ok (.ireturn, 1) := by decide +kernel
theorem dX4_findDrivers_0 : decode cX4_findDrivers 0 = .ok (.iconst 0, 1) := by decide +kernel
theorem dX4_findDrivers_1 : decode cX4_findDrivers 1 = .ok (.istore 6, 2) := by decide +kernel
theorem dX4_findDrivers_3 : decode cX4_findDrivers 3 = .ok (.iload 5, 2) := by decide +kernel
theorem dX4_findDrivers_5 : decode cX4_findDrivers 5 = .ok (.ifCond .le 12, 3) := by decide +kernel
theorem dX4_findDrivers_8 : decode cX4_findDrivers 8 = .ok (.iload_n 3, 1) := by decide +kernel
theorem dX4_findDrivers_9 : decode cX4_findDrivers 9 = .ok (.iload 5, 2) := by decide +kernel
theorem dX4_findDrivers_11 : decode cX4_findDrivers 11 = .ok (.iload 5, 2) := by decide +kernel
theorem dX4_findDrivers_13 : decode cX4_findDrivers 13 = .ok (.imul, 1) := by decide +kernel
theorem dX4_findDrivers_14 : decode cX4_findDrivers 14 = .ok (.if_icmp .le 5, 3) := by decide +kernel
theorem dX4_findDrivers_17 : decode cX4_findDrivers 17 = .ok (.iconst 0, 1) := by decide +kernel
theorem dX4_findDrivers_18 : decode cX4_findDrivers 18 = .ok (.ireturn, 1) := by decide +kernel
theorem dX4_findDrivers_19 : decode cX4_findDrivers 19 = .ok (.iload 4, 2) := by decide +kernel
theorem dX4_findDrivers_21 : decode cX4_findDrivers 21 = .ok (.iload_n 3, 1) := by decide +kernel
theorem dX4_findDrivers_22 : decode cX4_findDrivers 22 = .ok (.iload 5, 2) := by decide +kernel
theorem dX4_findDrivers_24 : decode cX4_findDrivers 24 = .ok (.iadd, 1) := by decide +kernel
theorem dX4_findDrivers_25 : decode cX4_findDrivers 25 = .ok (.iconst 1, 1) := by decide +kernel
theorem dX4_findDrivers_26 : decode cX4_findDrivers 26 = .ok (.isub, 1) := by decide +kernel
theorem dX4_findDrivers_27 : decode cX4_findDrivers 27 = .ok (.iload 5, 2) := by decide +kernel
theorem dX4_findDrivers_29 : decode cX4_findDrivers 29 = .ok (.idiv, 1) := by decide +kernel
theorem dX4_findDrivers_30 : decode cX4_findDrivers 30 = .ok (.invokestatic 154, 3) := by decide +kernel
theorem dX4_findDrivers_33 : decode cX4_findDrivers 33 = .ok (.istore 7, 2) := by decide +kernel
theorem dX4_findDrivers_35 : decode cX4_findDrivers 35 = .ok (.iload 7, 2) := by decide +kernel
theorem dX4_findDrivers_37 : decode cX4_findDrivers 37 = .ok (.istore 8, 2) := by decide +kernel
theorem dX4_findDrivers_39 : decode cX4_findDrivers 39 = .ok (.iload 8, 2) := by decide +kernel
theorem dX4_findDrivers_41 : decode cX4_findDrivers 41 = .ok (.iload 5, 2) := by decide +kernel
theorem dX4_findDrivers_43 : decode cX4_findDrivers 43 = .ok (.if_icmp .gt 45, 3) := by decide +kernel
theorem dX4_findDrivers_46 : decode cX4_findDrivers 46 = .ok (.iload 8, 2) := by decide +kernel
theorem dX4_findDrivers_48 : decode cX4_findDrivers 48 = .ok (.ifCond .le 40, 3) := by decide +kernel
theorem dX4_findDrivers_51 : decode cX4_findDrivers 51 = .ok (.iload 8, 2) := by decide +kernel
theorem dX4_findDrivers_53 : decode cX4_findDrivers 53 = .ok (.iload 8, 2) := by decide +kernel
theorem dX4_findDrivers_55 : decode cX4_findDrivers 55 = .ok (.imul, 1) := by decide +kernel
theorem dX4_findDrivers_56 : decode cX4_findDrivers 56 = .ok (.iload_n 3, 1) := by decide +kernel
theorem dX4_findDrivers_57 : decode cX4_findDrivers 57 = .ok (.if_icmp .gt 31, 3) := by decide +kernel
theorem dX4_findDrivers_60 : decode cX4_findDrivers 60 = .ok (.iload_n 3, 1) := by decide +kernel
theorem dX4_findDrivers_61 : decode cX4_findDrivers 61 = .ok (.iload 8, 2) := by decide +kernel
theorem dX4_findDrivers_63 : decode cX4_findDrivers 63 = .ok (.irem, 1) := by decide +kernel
theorem dX4_findDrivers_64 : decode cX4_findDrivers 64 = .ok (.ifCond .ne 18, 3) := by decide +kernel
theorem dX4_findDrivers_67 : decode cX4_findDrivers 67 = .ok (.iinc 6 1, 3) := by decide +kernel
theorem dX4_findDrivers_70 : decode cX4_findDrivers 70 = .ok (.aload_n 0, 1) := by decide +kernel
theorem dX4_findDrivers_71 : decode cX4_findDrivers 71 = .ok (.iload_n 1, 1) := by decide +kernel
theorem dX4_findDrivers_72 : decode cX4_findDrivers 72 = .ok (.iload 8, 2) := by decide +kernel
theorem dX4_findDrivers_74 : decode cX4_findDrivers 74 = .ok (.iload_n 2, 1) := by decide +kernel
theorem dX4_findDrivers_75 : decode cX4_findDrivers 75 = .ok (.iload_n 3, 1) := by decide +kernel
theorem dX4_findDrivers_76 : decode cX4_findDrivers 76 = .ok (.iload 8, 2) := by decide +kernel
theorem dX4_findDrivers_78 : decode cX4_findDrivers 78 = .ok (.idiv, 1) := by decide +kernel
theorem dX4_findDrivers_79 : decode cX4_findDrivers 79 = .ok (.invokevirtual 174, 3) := by decide +kernel
theorem dX4_findDrivers_82 : decode cX4_findDrivers 82 = .ok (.iinc 8 1, 3) := by decide +kernel
theorem dX4_findDrivers_85 : decode cX4_findDrivers 85 = .ok (.goto (-46), 3) := by decide +kernel
theorem dX4_findDrivers_88 : decode cX4_findDrivers 88 = .ok (.iload 6, 2) := by decide +kernel
theorem dX4_findDrivers_90 : decode cX4_findDrivers 90 = .ok (.ireturn, 1) := by decide +kernel
theorem dX4_keepTrain_0 : decode cX4_keepTrain 0 = .ok (.aload_n 0, 1) := by decide +kernel
theorem dX4_keepTrain_1 : decode cX4_keepTrain 1 = .ok (.getfield 167, 3) := by decide +kernel
theorem dX4_keepTrain_4 : decode cX4_keepTrain 4 = .ok (.sipush 300, 3) := by decide +kernel
theorem dX4_keepTrain_7 : decode cX4_keepTrain 7 = .ok (.if_icmp .lt 4, 3) := by decide +kernel
theorem dX4_keepTrain_10 : decode cX4_keepTrain 10 = .ok (.return_, 1) := by decide +kernel
theorem dX4_keepTrain_11 : decode cX4_keepTrain 11 = .ok (.iconst 4, 1) := by decide +kernel
theorem dX4_keepTrain_12 : decode cX4_keepTrain 12 = .ok (.aload_n 0, 1) := by decide +kernel
theorem dX4_keepTrain_13 : decode cX4_keepTrain 13 = .ok (.getfield 167, 3) := by decide +kernel
theorem dX4_keepTrain_16 : decode cX4_keepTrain 16 = .ok (.imul, 1) := by decide +kernel
theorem dX4_keepTrain_17 : decode cX4_keepTrain 17 = .ok (.istore 5, 2) := by decide +kernel
theorem dX4_keepTrain_19 : decode cX4_keepTrain 19 = .ok (.aload_n 0, 1) := by decide +kernel
theorem dX4_keepTrain_20 : decode cX4_keepTrain 20 = .ok (.getfield 28, 3) := by decide +kernel
theorem dX4_keepTrain_23 : decode cX4_keepTrain 23 = .ok (.iload 5, 2) := by decide +kernel
theorem dX4_keepTrain_25 : decode cX4_keepTrain 25 = .ok (.iload_n 1, 1) := by decide +kernel
theorem dX4_keepTrain_26 : decode cX4_keepTrain 26 = .ok (.iastore, 1) := by decide +kernel
theorem dX4_keepTrain_27 : decode cX4_keepTrain 27 = .ok (.aload_n 0, 1) := by decide +kernel
theorem dX4_keepTrain_28 : decode cX4_keepTrain 28 = .ok (.getfield 28, 3) := by decide +kernel
theorem dX4_keepTrain_31 : decode cX4_keepTrain 31 = .ok (.iload 5, 2) := by decide +kernel
theorem dX4_keepTrain_33 : decode cX4_keepTrain 33 = .ok (.iconst 1, 1) := by decide +kernel
theorem dX4_keepTrain_34 : decode cX4_keepTrain 34 = .ok (.iadd, 1) := by decide +kernel
theorem dX4_keepTrain_35 : decode cX4_keepTrain 35 = .ok (.iload_n 2, 1) := by decide +kernel
theorem dX4_keepTrain_36 : decode cX4_keepTrain 36 = .ok (.iastore, 1) := by decide +kernel
theorem dX4_keepTrain_37 : decode cX4_keepTrain 37 = .ok (.aload_n 0, 1) := by decide +kernel
theorem dX4_keepTrain_38 : decode cX4_keepTrain 38 = .ok (.getfield 28, 3) := by decide +kernel
theorem dX4_keepTrain_41 : decode cX4_keepTrain 41 = .ok (.iload 5, 2) := by decide +kernel
theorem dX4_keepTrain_43 : decode cX4_keepTrain 43 = .ok (.iconst 2, 1) := by decide +kernel
theorem dX4_keepTrain_44 : decode cX4_keepTrain 44 = .ok (.iadd, 1) := by decide +kernel
theorem dX4_keepTrain_45 : decode cX4_keepTrain 45 = .ok (.iload_n 3, 1) := by decide +kernel
theorem dX4_keepTrain_46 : decode cX4_keepTrain 46 = .ok (.iastore, 1) := by decide +kernel
theorem dX4_keepTrain_47 : decode cX4_keepTrain 47 = .ok (.aload_n 0, 1) := by decide +kernel
theorem dX4_keepTrain_48 : decode cX4_keepTrain 48 = .ok (.getfield 28, 3) := by decide +kernel
theorem dX4_keepTrain_51 : decode cX4_keepTrain 51 = .ok (.iload 5, 2) := by decide +kernel
theorem dX4_keepTrain_53 : decode cX4_keepTrain 53 = .ok (.iconst 3, 1) := by decide +kernel
theorem dX4_keepTrain_54 : decode cX4_keepTrain 54 = .ok (.iadd, 1) := by decide +kernel
theorem dX4_keepTrain_55 : decode cX4_keepTrain 55 = .ok (.iload 4, 2) := by decide +kernel
theorem dX4_keepTrain_57 : decode cX4_keepTrain 57 = .ok (.iastore, 1) := by decide +kernel
theorem dX4_keepTrain_58 : decode cX4_keepTrain 58 = .ok (.aload_n 0, 1) := by decide +kernel
theorem dX4_keepTrain_59 : decode cX4_keepTrain 59 = .ok (.dup, 1) := by decide +kernel
theorem dX4_keepTrain_60 : decode cX4_keepTrain 60 = .ok (.getfield 167, 3) := by decide +kernel
theorem dX4_keepTrain_63 : decode cX4_keepTrain 63 = .ok (.iconst 1, 1) := by decide +kernel
theorem dX4_keepTrain_64 : decode cX4_keepTrain 64 = .ok (.iadd, 1) := by decide +kernel
theorem dX4_keepTrain_65 : decode cX4_keepTrain 65 = .ok (.putfield 167, 3) := by decide +kernel
theorem dX4_keepTrain_68 : decode cX4_keepTrain 68 = .ok (.return_, 1) := by decide +kernel
theorem dX5_init_0 : decode cX5_init 0 = .ok (.aload_n 0, 1) := by decide +kernel
theorem dX5_init_1 : decode cX5_init 1 = .ok (.invokespecial 1, 3) := by decide +kernel
theorem dX5_init_4 : decode cX5_init 4 = .ok (.aload_n 0, 1) := by decide +kernel
theorem dX5_init_5 : decode cX5_init 5 = .ok (.iconst 4, 1) := by decide +kernel
theorem dX5_init_6 : decode cX5_init 6 = .ok (.newarray .int, 2) := by decide +kernel
theorem dX5_init_8 : decode cX5_init 8 = .ok (.putfield 7, 3) := by decide +kernel
theorem dX5_init_11 : decode cX5_init 11 = .ok (.aload_n 0, 1) := by decide +kernel
theorem dX5_init_12 : decode cX5_init 12 = .ok (.new 13, 3) := by decide +kernel
theorem dX5_init_15 : decode cX5_init 15 = .ok (.dup, 1) := by decide +kernel
theorem dX5_init_16 : decode cX5_init 16 = .ok (.invokespecial 15, 3) := by decide +kernel
theorem dX5_init_19 : decode cX5_init 19 = .ok (.putfield 16, 3) := by decide +kernel
theorem dX5_init_22 : decode cX5_init 22 = .ok (.aload_n 0, 1) := by decide +kernel
theorem dX5_init_23 : decode cX5_init 23 = .ok (.new 13, 3) := by decide +kernel
theorem dX5_init_26 : decode cX5_init 26 = .ok (.dup, 1) := by decide +kernel
theorem dX5_init_27 : decode cX5_init 27 = .ok (.invokespecial 15, 3) := by decide +kernel
theorem dX5_init_30 : decode cX5_init 30 = .ok (.putfield 20, 3) := by decide +kernel
theorem dX5_init_33 : decode cX5_init 33 = .ok (.aload_n 0, 1) := by decide +kernel
theorem dX5_init_34 : decode cX5_init 34 = .ok (.new 23, 3) := by decide +kernel
theorem dX5_init_37 : decode cX5_init 37 = .ok (.dup, 1) := by decide +kernel
theorem dX5_init_38 : decode cX5_init 38 = .ok (.invokespecial 25, 3) := by decide +kernel
theorem dX5_init_41 : decode cX5_init 41 = .ok (.putfield 26, 3) := by decide +kernel
theorem dX5_init_44 : decode cX5_init 44 = .ok (.aload_n 0, 1) := by decide +kernel
theorem dX5_init_45 : decode cX5_init 45 = .ok (.new 23, 3) := by decide +kernel
theorem dX5_init_48 : decode cX5_init 48 = .ok (.dup, 1) := by decide +kernel
theorem dX5_init_49 : decode cX5_init 49 = .ok (.invokespecial 25, 3) := by decide +kernel
theorem dX5_init_52 : decode cX5_init 52 = .ok (.putfield 30, 3) := by decide +kernel
theorem dX5_init_55 : decode cX5_init 55 = .ok (.aload_n 0, 1) := by decide +kernel
theorem dX5_init_56 : decode cX5_init 56 = .ok (.new 23, 3) := by decide +kernel
theorem dX5_init_59 : decode cX5_init 59 = .ok (.dup, 1) := by decide +kernel
theorem dX5_init_60 : decode cX5_init 60 = .ok (.invokespecial 25, 3) := by decide +kernel
theorem dX5_init_63 : decode cX5_init 63 = .ok (.putfield 33, 3) := by decide +kernel
theorem dX5_init_66 : decode cX5_init 66 = .ok (.aload_n 0, 1) := by decide +kernel
theorem dX5_init_67 : decode cX5_init 67 = .ok (.new 23, 3) := by decide +kernel
theorem dX5_init_70 : decode cX5_init 70 = .ok (.dup, 1) := by decide +kernel
theorem dX5_init_71 : decode cX5_init 71 = .ok (.invokespecial 25, 3) := by decide +kernel
theorem dX5_init_74 : decode cX5_init 74 = .ok (.putfield 36, 3) := by decide +kernel
theorem dX5_init_77 : decode cX5_init 77 = .ok (.return_, 1) := by decide +kernel
theorem dX5_become_0 : decode cX5_become 0 = .ok (.aload_n 0, 1) := by decide +kernel
theorem dX5_become_1 : decode cX5_become 1 = .ok (.aload_n 1, 1) := by decide +kernel
theorem dX5_become_2 : decode cX5_become 2 = .ok (.getfield 39, 3) := by decide +kernel
theorem dX5_become_5 : decode cX5_become 5 = .ok (.iconst 0, 1) := by decide +kernel
theorem dX5_become_6 : decode cX5_become 6 = .ok (.laload, 1) := by decide +kernel
theorem dX5_become_7 : decode cX5_become 7 = .ok (.putfield 45, 3) := by decide +kernel
theorem dX5_become_10 : decode cX5_become 10 = .ok (.aload_n 0, 1) := by decide +kernel
theorem dX5_become_11 : decode cX5_become 11 = .ok (.aload_n 1, 1) := by decide +kernel
theorem dX5_become_12 : decode cX5_become 12 = .ok (.getfield 49, 3) := by decide +kernel
theorem dX5_become_15 : decode cX5_become 15 = .ok (.putfield 53, 3) := by decide +kernel
theorem dX5_become_18 : decode cX5_become 18 = .ok (.aload_n 0, 1) := by decide +kernel
theorem dX5_become_19 : decode cX5_become 19 = .ok (.iconst 0, 1) := by decide +kernel
theorem dX5_become_20 : decode cX5_become 20 = .ok (.putfield 54, 3) := by decide +kernel
theorem dX5_become_23 : decode cX5_become 23 = .ok (.aload_n 0, 1) := by decide +kernel
theorem dX5_become_24 : decode cX5_become 24 = .ok (.iconst 0, 1) := by decide +kernel
theorem dX5_become_25 : decode cX5_become 25 = .ok (.putfield 57, 3) := by decide +kernel
theorem dX5_become_28 : decode cX5_become 28 = .ok (.aload_n 0, 1) := by decide +kernel
theorem dX5_become_29 : decode cX5_become 29 = .ok (.iconst (-1), 1) := by decide +kernel
theorem dX5_become_30 : decode cX5_become 30 = .ok (.putfield 60, 3) := by decide +kernel
theorem dX5_become_33 : decode cX5_become 33 = .ok (.aload_n 0, 1) := by decide +kernel
theorem dX5_become_34 : decode cX5_become 34 = .ok (.iconst 0, 1) := by decide +kernel
theorem dX5_become_35 : decode cX5_become 35 = .ok (.putfield 63, 3) := by decide +kernel
theorem dX5_become_38 : decode cX5_become 38 = .ok (.aload_n 0, 1) := by decide +kernel
theorem dX5_become_39 : decode cX5_become 39 = .ok (.iconst 0, 1) := by decide +kernel
theorem dX5_become_40 : decode cX5_become 40 = .ok (.putfield 67, 3) := by decide +kernel
theorem dX5_become_43 : decode cX5_become 43 = .ok (.aload_n 0, 1) := by decide +kernel
theorem dX5_become_44 : decode cX5_become 44 = .ok (.iconst 0, 1) := by decide +kernel
theorem dX5_become_45 : decode cX5_become 45 = .ok (.putfield 70, 3) := by decide +kernel
theorem dX5_become_48 : decode cX5_become 48 = .ok (.aload_n 0, 1) := by decide +kernel
theorem dX5_become_49 : decode cX5_become 49 = .ok (.iconst 0, 1) := by decide +kernel
theorem dX5_become_50 : decode cX5_become 50 = .ok (.putfield 73, 3) := by decide +kernel
theorem dX5_become_53 : decode cX5_become 53 = .ok (.aload_n 0, 1) := by decide +kernel
theorem dX5_become_54 : decode cX5_become 54 = .ok (.iconst 0, 1) := by decide +kernel
theorem dX5_become_55 : decode cX5_become 55 = .ok (.putfield 76, 3) := by decide +kernel
theorem dX5_become_58 : decode cX5_become 58 = .ok (.iconst 1, 1) := by decide +kernel
theorem dX5_become_59 : decode cX5_become 59 = .ok (.istore_n 3, 1) := by decide +kernel
theorem dX5_become_60 : decode cX5_become 60 = .ok (.iconst 1, 1) := by decide +kernel
theorem dX5_become_61 : decode cX5_become 61 = .ok (.istore 4, 2) := by decide +kernel
theorem dX5_become_63 : decode cX5_become 63 = .ok (.iload 4, 2) := by decide +kernel
theorem dX5_become_65 : decode cX5_become 65 = .ok (.aload_n 1, 1) := by decide +kernel
theorem dX5_become_66 : decode cX5_become 66 = .ok (.getfield 79, 3) := by decide +kernel
theorem dX5_become_69 : decode cX5_become 69 = .ok (.if_icmp .ge 81, 3) := by decide +kernel
theorem dX5_become_72 : decode cX5_become 72 = .ok (.aload_n 1, 1) := by decide +kernel
theorem dX5_become_73 : decode cX5_become 73 = .ok (.getfield 82, 3) := by decide +kernel
theorem dX5_become_76 : decode cX5_become 76 = .ok (.iload 4, 2) := by decide +kernel
theorem dX5_become_78 : decode cX5_become 78 = .ok (.iaload, 1) := by decide +kernel
theorem dX5_become_79 : decode cX5_become 79 = .ok (.bipush 120, 2) := by decide +kernel
theorem dX5_become_81 : decode cX5_become 81 = .ok (.if_icmp .eq 15, 3) := by decide +kernel
theorem dX5_become_84 : decode cX5_become 84 = .ok (.aload_n 1, 1) := by decide +kernel
theorem dX5_become_85 : decode cX5_become 85 = .ok (.getfield 82, 3) := by decide +kernel
theorem dX5_become_88 : decode cX5_become 88 = .ok (.iload 4, 2) := by decide +kernel
theorem dX5_become_90 : decode cX5_become 90 = .ok (.iaload, 1) := by decide +kernel
theorem dX5_become_91 : decode cX5_become 91 = .ok (.bipush 114, 2) := by decide +kernel
theorem dX5_become_93 : decode cX5_become 93 = .ok (.if_icmp .ne 43, 3) := by decide +kernel
theorem dX5_become_96 : decode cX5_become 96 = .ok (.aload_n 0, 1) := by decide +kernel
theorem dX5_become_97 : decode cX5_become 97 = .ok (.iload_n 3, 1) := by decide +kernel
theorem dX5_become_98 : decode cX5_become 98 = .ok (.ifCond .eq 10, 3) := by decide +kernel
theorem dX5_become_101 : decode cX5_become 101 = .ok (.aload_n 0, 1) := by decide +kernel
theorem dX5_become_102 : decode cX5_become 102 = .ok (.getfield 16, 3) := by decide +kernel
theorem dX5_become_105 : decode cX5_become 105 = .ok (.goto 7, 3) := by decide +kernel
theorem dX5_become_108 : decode cX5_become 108 = .ok (.aload_n 0, 1) := by decide +kernel
theorem dX5_become_109 : decode cX5_become 109 = .ok (.getfield 20, 3) := by decide +kernel
theorem dX5_become_112 : decode cX5_become 112 = .ok (.aload_n 1, 1) := by decide +kernel
theorem dX5_become_113 : decode cX5_become 113 = .ok (.getfield 85, 3) := by decide +kernel
theorem dX5_become_116 : decode cX5_become 116 = .ok (.iload 4, 2) := by decide +kernel
theorem dX5_become_118 : decode cX5_become 118 = .ok (.iaload, 1) := by decide +kernel
theorem dX5_become_119 : decode cX5_become 119 = .ok (.i2l, 1) := by decide +kernel
theorem dX5_become_120 : decode cX5_become 120 = .ok (.aload_n 1, 1) := by decide +kernel
theorem dX5_become_121 : decode cX5_become 121 = .ok (.getfield 88, 3) := by decide +kernel
theorem dX5_become_124 : decode cX5_become 124 = .ok (.iload 4, 2) := by decide +kernel
theorem dX5_become_126 : decode cX5_become 126 = .ok (.iaload, 1) := by decide +kernel
theorem dX5_become_127 : decode cX5_become 127 = .ok (.i2l, 1) := by decide +kernel
theorem dX5_become_128 : decode cX5_become 128 = .ok (.invokevirtual 91, 3) := by decide +kernel
theorem dX5_become_131 : decode cX5_become 131 = .ok (.iconst 0, 1) := by decide +kernel
theorem dX5_become_132 : decode cX5_become 132 = .ok (.istore_n 3, 1) := by decide +kernel
theorem dX5_become_133 : decode cX5_become 133 = .ok (.goto 11, 3) := by decide +kernel
theorem dX5_become_136 : decode cX5_become 136 = .ok (.aload_n 0, 1) := by decide +kernel
theorem dX5_become_137 : decode cX5_become 137 = .ok (.aload_n 1, 1) := by decide +kernel
theorem dX5_become_138 : decode cX5_become 138 = .ok (.iload 4, 2) := by decide +kernel
theorem dX5_become_140 : decode cX5_become 140 = .ok (.iload_n 2, 1) := by decide +kernel
theorem dX5_become_141 : decode cX5_become 141 = .ok (.invokevirtual 95, 3) := by decide +kernel
theorem dX5_become_144 : decode cX5_become 144 = .ok (.iinc 4 1, 3) := by decide +kernel
theorem dX5_become_147 : decode cX5_become 147 = .ok (.goto (-84), 3) := by decide +kernel
theorem dX5_become_150 : decode cX5_become 150 = .ok (.aload_n 0, 1) := by decide +kernel
theorem dX5_become_151 : decode cX5_become 151 = .ok (.getfield 53, 3) := by decide +kernel
theorem dX5_become_154 : decode cX5_become 154 = .ok (.iconst 1, 1) := by decide +kernel
theorem dX5_become_155 : decode cX5_become 155 = .ok (.if_icmp .ne 30, 3) := by decide +kernel
theorem dX5_become_158 : decode cX5_become 158 = .ok (.aload_n 0, 1) := by decide +kernel
theorem dX5_become_159 : decode cX5_become 159 = .ok (.getfield 20, 3) := by decide +kernel
theorem dX5_become_162 : decode cX5_become 162 = .ok (.aload_n 0, 1) := by decide +kernel
theorem dX5_become_163 : decode cX5_become 163 = .ok (.getfield 99, 3) := by decide +kernel
theorem dX5_become_166 : decode cX5_become 166 = .ok (.i2l, 1) := by decide +kernel
theorem dX5_become_167 : decode cX5_become 167 = .ok (.aload_n 1, 1) := by decide +kernel
theorem dX5_become_168 : decode cX5_become 168 = .ok (.getfield 85, 3) := by decide +kernel
theorem dX5_become_171 : decode cX5_become 171 = .ok (.iconst 2, 1) := by decide +kernel
theorem dX5_become_172 : decode cX5_become 172 = .ok (.iaload, 1) := by decide +kernel
theorem dX5_become_173 : decode cX5_become 173 = .ok (.i2l, 1) := by decide +kernel
theorem dX5_become_174 : decode cX5_become 174 = .ok (.lmul, 1) := by decide +kernel
theorem dX5_become_175 : decode cX5_become 175 = .ok (.aload_n 1, 1) := by decide +kernel
theorem dX5_become_176 : decode cX5_become 176 = .ok (.getfield 88, 3) := by decide +kernel
theorem dX5_become_179 : decode cX5_become 179 = .ok (.iconst 2, 1) := by decide +kernel
theorem dX5_become_180 : decode cX5_become 180 = .ok (.iaload, 1) := by decide +kernel
theorem dX5_become_181 : decode cX5_become 181 = .ok (.i2l, 1) := by decide +kernel
theorem dX5_become_182 : decode cX5_become 182 = .ok (.invokevirtual 102, 3) := by decide +kernel
theorem dX5_become_185 : decode cX5_become 185 = .ok (.return_, 1) := by decide +kernel
theorem dX5_takeNumber_0 : decode cX5_takeNumber 0 = .ok (.aload_n 0, 1) := by decide +kernel
theorem dX5_takeNumber_1 : decode cX5_takeNumber 1 = .ok (.getfield 53, 3) := by decide +kernel
theorem dX5_takeNumber_4 : decode cX5_takeNumber 4 = .ok (.iconst 2, 1) := by decide +kernel
theorem dX5_takeNumber_5 : decode cX5_takeNumber 5 = .ok (.if_icmp .eq 11, 3) := by decide +kernel
theorem dX5_takeNumber_8 : decode cX5_takeNumber 8 = .ok (.aload_n 0, 1) := by decide +kernel
theorem dX5_takeNumber_9 : decode cX5_takeNumber 9 = .ok (.getfield 53, 3) := by decide +kernel
theorem dX5_takeNumber_12 : decode cX5_takeNumber 12 = .ok (.iconst 3, 1) := by decide +kernel
theorem dX5_takeNumber_13 : decode cX5_takeNumber 13 = .ok (.if_icmp .ne 18, 3) := by decide +kernel
theorem dX5_takeNumber_16 : decode cX5_takeNumber 16 = .ok (.aload_n 1, 1) := by decide +kernel
theorem dX5_takeNumber_17 : decode cX5_takeNumber 17 = .ok (.lload_n 2, 1) := by decide +kernel
theorem dX5_takeNumber_18 : decode cX5_takeNumber 18 = .ok (.lload_n 2, 1) := by decide +kernel
theorem dX5_takeNumber_19 : decode cX5_takeNumber 19 = .ok (.lmul, 1) := by decide +kernel
theorem dX5_takeNumber_20 : decode cX5_takeNumber 20 = .ok (.lload 4, 2) := by decide +kernel
theorem dX5_takeNumber_22 : decode cX5_takeNumber 22 = .ok (.lload 4, 2) := by decide +kernel
theorem dX5_takeNumber_24 : decode cX5_takeNumber 24 = .ok (.lmul, 1) := by decide +kernel
theorem dX5_takeNumber_25 : decode cX5_takeNumber 25 = .ok (.invokevirtual 102, 3) := by decide +kernel
theorem dX5_takeNumber_28 : decode cX5_takeNumber 28 = .ok (.goto 10, 3) := by decide +kernel
theorem dX5_takeNumber_31 : decode cX5_takeNumber 31 = .ok (.aload_n 1, 1) := by decide +kernel
theorem dX5_takeNumber_32 : decode cX5_takeNumber 32 = .ok (.lload_n 2, 1) := by decide +kernel
theorem dX5_takeNumber_33 : decode cX5_takeNumber 33 = .ok (.lload 4, 2) := by decide +kernel
theorem dX5_takeNumber_35 : decode cX5_takeNumber 35 = .ok (.invokevirtual 102, 3) := by decide +kernel
theorem dX5_takeNumber_38 : decode cX5_takeNumber 38 = .ok (.return_, 1) := by decide +kernel
theorem dX5_takePart_0 : decode cX5_takePart 0 = .ok (.aload_n 1, 1) := by decide +kernel
theorem dX5_takePart_1 : decode cX5_takePart 1 = .ok (.getfield 82, 3) := by decide +kernel
theorem dX5_takePart_4 : decode cX5_takePart 4 = .ok (.iload_n 2, 1) := by decide +kernel
theorem dX5_takePart_5 : decode cX5_takePart 5 = .ok (.iaload, 1) := by decide +kernel
theorem dX5_takePart_6 : decode cX5_takePart 6 = .ok (.lookupswitch 137 #[(80, 42), (105, 86), (107, 122), (110, 110)], 42) := by decide +kernel
theorem dX5_takePart_48 : decode cX5_takePart 48 = .ok (.aload_n 0, 1) := by decide +kernel
theorem dX5_takePart_49 : decode cX5_takePart 49 = .ok (.getfield 54, 3) := by decide +kernel
theorem dX5_takePart_52 : decode cX5_takePart 52 = .ok (.aload_n 0, 1) := by decide +kernel
theorem dX5_takePart_53 : decode cX5_takePart 53 = .ok (.getfield 7, 3) := by decide +kernel
theorem dX5_takePart_56 : decode cX5_takePart 56 = .ok (.arraylength, 1) := by decide +kernel
theorem dX5_takePart_57 : decode cX5_takePart 57 = .ok (.if_icmp .ge 129, 3) := by decide +kernel
theorem dX5_takePart_60 : decode cX5_takePart 60 = .ok (.aload_n 0, 1) := by decide +kernel
theorem dX5_takePart_61 : decode cX5_takePart 61 = .ok (.getfield 7, 3) := by decide +kernel
theorem dX5_takePart_64 : decode cX5_takePart 64 = .ok (.aload_n 0, 1) := by decide +kernel
theorem dX5_takePart_65 : decode cX5_takePart 65 = .ok (.getfield 54, 3) := by decide +kernel
theorem dX5_takePart_68 : decode cX5_takePart 68 = .ok (.aload_n 1, 1) := by decide +kernel
theorem dX5_takePart_69 : decode cX5_takePart 69 = .ok (.aload_n 1, 1) := by decide +kernel
theorem dX5_takePart_70 : decode cX5_takePart 70 = .ok (.getfield 39, 3) := by decide +kernel
theorem dX5_takePart_73 : decode cX5_takePart 73 = .ok (.iload_n 2, 1) := by decide +kernel
theorem dX5_takePart_74 : decode cX5_takePart 74 = .ok (.laload, 1) := by decide +kernel
theorem dX5_takePart_75 : decode cX5_takePart 75 = .ok (.invokevirtual 106, 3) := by decide +kernel
theorem dX5_takePart_78 : decode cX5_takePart 78 = .ok (.iastore, 1) := by decide +kernel
theorem dX5_takePart_79 : decode cX5_takePart 79 = .ok (.aload_n 0, 1) := by decide +kernel
theorem dX5_takePart_80 : decode cX5_takePart 80 = .ok (.dup, 1) := by decide +kernel
theorem dX5_takePart_81 : decode cX5_takePart 81 = .ok (.getfield 54, 3) := by decide +kernel
theorem dX5_takePart_84 : decode cX5_takePart 84 = .ok (.iconst 1, 1) := by decide +kernel
theorem dX5_takePart_85 : decode cX5_takePart 85 = .ok (.iadd, 1) := by decide +kernel
theorem dX5_takePart_86 : decode cX5_takePart 86 = .ok (.putfield 54, 3) := by decide +kernel
theorem dX5_takePart_89 : decode cX5_takePart 89 = .ok (.goto 97, 3) := by decide +kernel
theorem dX5_takePart_92 : decode cX5_takePart 92 = .ok (.aload_n 0, 1) := by decide +kernel
theorem dX5_takePart_93 : decode cX5_takePart 93 = .ok (.aload_n 1, 1) := by decide +kernel
theorem dX5_takePart_94 : decode cX5_takePart 94 = .ok (.iload_n 2, 1) := by decide +kernel
theorem dX5_takePart_95 : decode cX5_takePart 95 = .ok (.invokevirtual 110, 3) := by decide +kernel
theorem dX5_takePart_98 : decode cX5_takePart 98 = .ok (.putfield 114, 3) := by decide +kernel
theorem dX5_takePart_101 : decode cX5_takePart 101 = .ok (.aload_n 0, 1) := by decide +kernel
theorem dX5_takePart_102 : decode cX5_takePart 102 = .ok (.sipush 256, 3) := by decide +kernel
theorem dX5_takePart_105 : decode cX5_takePart 105 = .ok (.aload_n 0, 1) := by decide +kernel
theorem dX5_takePart_106 : decode cX5_takePart 106 = .ok (.getfield 114, 3) := by decide +kernel
theorem dX5_takePart_109 : decode cX5_takePart 109 = .ok (.ishl, 1) := by decide +kernel
theorem dX5_takePart_110 : decode cX5_takePart 110 = .ok (.putfield 57, 3) := by decide +kernel
theorem dX5_takePart_113 : decode cX5_takePart 113 = .ok (.goto 73, 3) := by decide +kernel
theorem dX5_takePart_116 : decode cX5_takePart 116 = .ok (.aload_n 0, 1) := by decide +kernel
theorem dX5_takePart_117 : decode cX5_takePart 117 = .ok (.aload_n 1, 1) := by decide +kernel
theorem dX5_takePart_118 : decode cX5_takePart 118 = .ok (.iload_n 2, 1) := by decide +kernel
theorem dX5_takePart_119 : decode cX5_takePart 119 = .ok (.invokevirtual 110, 3) := by decide +kernel
theorem dX5_takePart_122 : decode cX5_takePart 122 = .ok (.putfield 99, 3) := by decide +kernel
theorem dX5_takePart_125 : decode cX5_takePart 125 = .ok (.goto 61, 3) := by decide +kernel
theorem dX5_takePart_128 : decode cX5_takePart 128 = .ok (.aload_n 0, 1) := by decide +kernel
theorem dX5_takePart_129 : decode cX5_takePart 129 = .ok (.getfield 26, 3) := by decide +kernel
theorem dX5_takePart_132 : decode cX5_takePart 132 = .ok (.aload_n 1, 1) := by decide +kernel
theorem dX5_takePart_133 : decode cX5_takePart 133 = .ok (.iload_n 2, 1) := by decide +kernel
theorem dX5_takePart_134 : decode cX5_takePart 134 = .ok (.invokevirtual 110, 3) := by decide +kernel
theorem dX5_takePart_137 : decode cX5_takePart 137 = .ok (.invokevirtual 119, 3) := by decide +kernel
theorem dX5_takePart_140 : decode cX5_takePart 140 = .ok (.goto 46, 3) := by decide +kernel
theorem dX5_takePart_143 : decode cX5_takePart 143 = .ok (.aload_n 0, 1) := by decide +kernel
theorem dX5_takePart_144 : decode cX5_takePart 144 = .ok (.aload_n 1, 1) := by decide +kernel
theorem dX5_takePart_145 : decode cX5_takePart 145 = .ok (.getfield 85, 3) := by decide +kernel
theorem dX5_takePart_148 : decode cX5_takePart 148 = .ok (.iload_n 2, 1) := by decide +kernel
theorem dX5_takePart_149 : decode cX5_takePart 149 = .ok (.iaload, 1) := by decide +kernel
theorem dX5_takePart_150 : decode cX5_takePart 150 = .ok (.bipush 45, 2) := by decide +kernel
theorem dX5_takePart_152 : decode cX5_takePart 152 = .ok (.if_icmp .ne 7, 3) := by decide +kernel
theorem dX5_takePart_155 : decode cX5_takePart 155 = .ok (.iconst 1, 1) := by decide +kernel
theorem dX5_takePart_156 : decode cX5_takePart 156 = .ok (.goto 4, 3) := by decide +kernel
theorem dX5_takePart_159 : decode cX5_takePart 159 = .ok (.iconst 0, 1) := by decide +kernel
theorem dX5_takePart_160 : decode cX5_takePart 160 = .ok (.putfield 63, 3) := by decide +kernel
theorem dX5_takePart_163 : decode cX5_takePart 163 = .ok (.aload_n 1, 1) := by decide +kernel
theorem dX5_takePart_164 : decode cX5_takePart 164 = .ok (.getfield 85, 3) := by decide +kernel
theorem dX5_takePart_167 : decode cX5_takePart 167 = .ok (.iload_n 2, 1) := by decide +kernel
theorem dX5_takePart_168 : decode cX5_takePart 168 = .ok (.iaload, 1) := by decide +kernel
theorem dX5_takePart_169 : decode cX5_takePart 169 = .ok (.bipush 63, 2) := by decide +kernel
theorem dX5_takePart_171 : decode cX5_takePart 171 = .ok (.if_icmp .ne 15, 3) := by decide +kernel
theorem dX5_takePart_174 : decode cX5_takePart 174 = .ok (.aload_n 0, 1) := by decide +kernel
theorem dX5_takePart_175 : decode cX5_takePart 175 = .ok (.iload_n 3, 1) := by decide +kernel
theorem dX5_takePart_176 : decode cX5_takePart 176 = .ok (.putfield 60, 3) := by decide +kernel
theorem dX5_takePart_179 : decode cX5_takePart 179 = .ok (.aload_n 0, 1) := by decide +kernel
theorem dX5_takePart_180 : decode cX5_takePart 180 = .ok (.iconst 1, 1) := by decide +kernel
theorem dX5_takePart_181 : decode cX5_takePart 181 = .ok (.iload_n 3, 1) := by decide +kernel
theorem dX5_takePart_182 : decode cX5_takePart 182 = .ok (.ishl, 1) := by decide +kernel
theorem dX5_takePart_183 : decode cX5_takePart 183 = .ok (.putfield 57, 3) := by decide +kernel
theorem dX5_takePart_186 : decode cX5_takePart 186 = .ok (.return_, 1) := by decide +kernel
theorem dX5_signIn_0 : decode cX5_signIn 0 = .ok (.aload_n 0, 1) := by decide +kernel
theorem dX5_signIn_1 : decode cX5_signIn 1 = .ok (.getfield 60, 3) := by decide +kernel
theorem dX5_signIn_4 : decode cX5_signIn 4 = .ok (.ifCond .lt 23, 3) := by decide +kernel
theorem dX5_signIn_7 : decode cX5_signIn 7 = .ok (.iload_n 1, 1) := by decide +kernel
theorem dX5_signIn_8 : decode cX5_signIn 8 = .ok (.aload_n 0, 1) := by decide +kernel
theorem dX5_signIn_9 : decode cX5_signIn 9 = .ok (.getfield 60, 3) := by decide +kernel
theorem dX5_signIn_12 : decode cX5_signIn 12 = .ok (.ishr, 1) := by decide +kernel
theorem dX5_signIn_13 : decode cX5_signIn 13 = .ok (.iconst 1, 1) := by decide +kernel
theorem dX5_signIn_14 : decode cX5_signIn 14 = .ok (.iand, 1) := by decide +kernel
theorem dX5_signIn_15 : decode cX5_signIn 15 = .ok (.iconst 1, 1) := by decide +kernel
theorem dX5_signIn_16 : decode cX5_signIn 16 = .ok (.if_icmp .ne 7, 3) := by decide +kernel
theorem dX5_signIn_19 : decode cX5_signIn 19 = .ok (.iconst 1, 1) := by decide +kernel
theorem dX5_signIn_20 : decode cX5_signIn 20 = .ok (.goto 11, 3) := by decide +kernel
theorem dX5_signIn_23 : decode cX5_signIn 23 = .ok (.iconst 0, 1) := by decide +kernel
theorem dX5_signIn_24 : decode cX5_signIn 24 = .ok (.goto 7, 3) := by decide +kernel
theorem dX5_signIn_27 : decode cX5_signIn 27 = .ok (.aload_n 0, 1) := by decide +kernel
theorem dX5_signIn_28 : decode cX5_signIn 28 = .ok (.getfield 63, 3) := by decide +kernel
theorem dX5_signIn_31 : decode cX5_signIn 31 = .ok (.istore_n 2, 1) := by decide +kernel
theorem dX5_signIn_32 : decode cX5_signIn 32 = .ok (.iload_n 2, 1) := by decide +kernel
theorem dX5_signIn_33 : decode cX5_signIn 33 = .ok (.ifCond .eq 7, 3) := by decide +kernel
theorem dX5_signIn_36 : decode cX5_signIn 36 = .ok (.iconst (-1), 1) := by decide +kernel
theorem dX5_signIn_37 : decode cX5_signIn 37 = .ok (.goto 4, 3) := by decide +kernel
theorem dX5_signIn_40 : decode cX5_signIn 40 = .ok (.iconst 1, 1) := by decide +kernel
theorem dX5_signIn_41 : decode cX5_signIn 41 = .ok (.ireturn, 1) := by decide +kernel
theorem dX6_init_0 : decode cX6_init 0 = .ok (.aload_n 0, 1) := by decide +kernel
theorem dX6_init_1 : decode cX6_init 1 = .ok (.invokespecial 1, 3) := by decide +kernel
theorem dX6_init_4 : decode cX6_init 4 = .ok (.aload_n 0, 1) := by decide +kernel
theorem dX6_init_5 : decode cX6_init 5 = .ok (.sipush 156, 3) := by decide +kernel
theorem dX6_init_8 : decode cX6_init 8 = .ok (.newarray .int, 2) := by decide +kernel
theorem dX6_init_10 : decode cX6_init 10 = .ok (.putfield 9, 3) := by decide +kernel
theorem dX6_init_13 : decode cX6_init 13 = .ok (.aload_n 0, 1) := by decide +kernel
theorem dX6_init_14 : decode cX6_init 14 = .ok (.bipush 15, 2) := by decide +kernel
theorem dX6_init_16 : decode cX6_init 16 = .ok (.newarray .int, 2) := by decide +kernel
theorem dX6_init_18 : decode cX6_init 18 = .ok (.putfield 13, 3) := by decide +kernel
theorem dX6_init_21 : decode cX6_init 21 = .ok (.aload_n 0, 1) := by decide +kernel
theorem dX6_init_22 : decode cX6_init 22 = .ok (.bipush 15, 2) := by decide +kernel
theorem dX6_init_24 : decode cX6_init 24 = .ok (.newarray .int, 2) := by decide +kernel
theorem dX6_init_26 : decode cX6_init 26 = .ok (.putfield 16, 3) := by decide +kernel
theorem dX6_init_29 : decode cX6_init 29 = .ok (.aload_n 0, 1) := by decide +kernel
theorem dX6_init_30 : decode cX6_init 30 = .ok (.bipush 36, 2) := by decide +kernel
theorem dX6_init_32 : decode cX6_init 32 = .ok (.newarray .int, 2) := by decide +kernel
theorem dX6_init_34 : decode cX6_init 34 = .ok (.putfield 19, 3) := by decide +kernel
theorem dX6_init_37 : decode cX6_init 37 = .ok (.aload_n 0, 1) := by decide +kernel
theorem dX6_init_38 : decode cX6_init 38 = .ok (.bipush 6, 2) := by decide +kernel
theorem dX6_init_40 : decode cX6_init 40 = .ok (.newarray .int, 2) := by decide +kernel
theorem dX6_init_42 : decode cX6_init 42 = .ok (.putfield 22, 3) := by decide +kernel
theorem dX6_init_45 : decode cX6_init 45 = .ok (.aload_n 0, 1) := by decide +kernel
theorem dX6_init_46 : decode cX6_init 46 = .ok (.bipush 6, 2) := by decide +kernel
theorem dX6_init_48 : decode cX6_init 48 = .ok (.newarray .int, 2) := by decide +kernel
theorem dX6_init_50 : decode cX6_init 50 = .ok (.putfield 25, 3) := by decide +kernel
theorem dX6_init_53 : decode cX6_init 53 = .ok (.aload_n 0, 1) := by decide +kernel
theorem dX6_init_54 : decode cX6_init 54 = .ok (.sipush 1024, 3) := by decide +kernel
theorem dX6_init_57 : decode cX6_init 57 = .ok (.newarray .int, 2) := by decide +kernel
theorem dX6_init_59 : decode cX6_init 59 = .ok (.putfield 28, 3) := by decide +kernel
theorem dX6_init_62 : decode cX6_init 62 = .ok (.return_, 1) := by decide +kernel
theorem dX6_listAll_0 : decode cX6_listAll 0 = .ok (.aload_n 0, 1) := by decide +kernel
theorem dX6_listAll_1 : decode cX6_listAll 1 = .ok (.iconst 0, 1) := by decide +kernel
theorem dX6_listAll_2 : decode cX6_listAll 2 = .ok (.putfield 31, 3) := by decide +kernel
theorem dX6_listAll_5 : decode cX6_listAll 5 = .ok (.aload_n 0, 1) := by decide +kernel
theorem dX6_listAll_6 : decode cX6_listAll 6 = .ok (.iload_n 1, 1) := by decide +kernel
theorem dX6_listAll_7 : decode cX6_listAll 7 = .ok (.putfield 35, 3) := by decide +kernel
theorem dX6_listAll_10 : decode cX6_listAll 10 = .ok (.aload_n 0, 1) := by decide +kernel
theorem dX6_listAll_11 : decode cX6_listAll 11 = .ok (.invokevirtual 38, 3) := by decide +kernel
theorem dX6_listAll_14 : decode cX6_listAll 14 = .ok (.aload_n 0, 1) := by decide +kernel
theorem dX6_listAll_15 : decode cX6_listAll 15 = .ok (.getfield 28, 3) := by decide +kernel
theorem dX6_listAll_18 : decode cX6_listAll 18 = .ok (.iconst 0, 1) := by decide +kernel
theorem dX6_listAll_19 : decode cX6_listAll 19 = .ok (.invokestatic 41, 3) := by decide +kernel
theorem dX6_listAll_22 : decode cX6_listAll 22 = .ok (.iconst 1, 1) := by decide +kernel
theorem dX6_listAll_23 : decode cX6_listAll 23 = .ok (.aload_n 0, 1) := by decide +kernel
theorem dX6_listAll_24 : decode cX6_listAll 24 = .ok (.getfield 47, 3) := by decide +kernel
theorem dX6_listAll_27 : decode cX6_listAll 27 = .ok (.ishl, 1) := by decide +kernel
theorem dX6_listAll_28 : decode cX6_listAll 28 = .ok (.iconst 1, 1) := by decide +kernel
theorem dX6_listAll_29 : decode cX6_listAll 29 = .ok (.isub, 1) := by decide +kernel
theorem dX6_listAll_30 : decode cX6_listAll 30 = .ok (.istore_n 3, 1) := by decide +kernel
theorem dX6_listAll_31 : decode cX6_listAll 31 = .ok (.iload_n 3, 1) := by decide +kernel
theorem dX6_listAll_32 : decode cX6_listAll 32 = .ok (.ifCond .lt 68, 3) := by decide +kernel
theorem dX6_listAll_35 : decode cX6_listAll 35 = .ok (.iload_n 3, 1) := by decide +kernel
theorem dX6_listAll_36 : decode cX6_listAll 36 = .ok (.invokestatic 50, 3) := by decide +kernel
theorem dX6_listAll_39 : decode cX6_listAll 39 = .ok (.iload_n 2, 1) := by decide +kernel
theorem dX6_listAll_40 : decode cX6_listAll 40 = .ok (.if_icmp .ne 54, 3) := by decide +kernel
theorem dX6_listAll_43 : decode cX6_listAll 43 = .ok (.aload_n 0, 1) := by decide +kernel
theorem dX6_listAll_44 : decode cX6_listAll 44 = .ok (.iload_n 3, 1) := by decide +kernel
theorem dX6_listAll_45 : decode cX6_listAll 45 = .ok (.invokevirtual 56, 3) := by decide +kernel
theorem dX6_listAll_48 : decode cX6_listAll 48 = .ok (.ifCond .ne 46, 3) := by decide +kernel
theorem dX6_listAll_51 : decode cX6_listAll 51 = .ok (.aload_n 0, 1) := by decide +kernel
theorem dX6_listAll_52 : decode cX6_listAll 52 = .ok (.iload_n 3, 1) := by decide +kernel
theorem dX6_listAll_53 : decode cX6_listAll 53 = .ok (.invokevirtual 60, 3) := by decide +kernel
theorem dX6_listAll_56 : decode cX6_listAll 56 = .ok (.ifCond .eq 38, 3) := by decide +kernel
theorem dX6_listAll_59 : decode cX6_listAll 59 = .ok (.aload_n 0, 1) := by decide +kernel
theorem dX6_listAll_60 : decode cX6_listAll 60 = .ok (.getfield 31, 3) := by decide +kernel
theorem dX6_listAll_63 : decode cX6_listAll 63 = .ok (.sipush 156, 3) := by decide +kernel
theorem dX6_listAll_66 : decode cX6_listAll 66 = .ok (.if_icmp .ge 28, 3) := by decide +kernel
theorem dX6_listAll_69 : decode cX6_listAll 69 = .ok (.aload_n 0, 1) := by decide +kernel
theorem dX6_listAll_70 : decode cX6_listAll 70 = .ok (.getfield 9, 3) := by decide +kernel
theorem dX6_listAll_73 : decode cX6_listAll 73 = .ok (.aload_n 0, 1) := by decide +kernel
theorem dX6_listAll_74 : decode cX6_listAll 74 = .ok (.getfield 31, 3) := by decide +kernel
theorem dX6_listAll_77 : decode cX6_listAll 77 = .ok (.iload_n 3, 1) := by decide +kernel
theorem dX6_listAll_78 : decode cX6_listAll 78 = .ok (.iastore, 1) := by decide +kernel
theorem dX6_listAll_79 : decode cX6_listAll 79 = .ok (.aload_n 0, 1) := by decide +kernel
theorem dX6_listAll_80 : decode cX6_listAll 80 = .ok (.dup, 1) := by decide +kernel
theorem dX6_listAll_81 : decode cX6_listAll 81 = .ok (.getfield 31, 3) := by decide +kernel
theorem dX6_listAll_84 : decode cX6_listAll 84 = .ok (.iconst 1, 1) := by decide +kernel
theorem dX6_listAll_85 : decode cX6_listAll 85 = .ok (.iadd, 1) := by decide +kernel
theorem dX6_listAll_86 : decode cX6_listAll 86 = .ok (.putfield 31, 3) := by decide +kernel
theorem dX6_listAll_89 : decode cX6_listAll 89 = .ok (.aload_n 0, 1) := by decide +kernel
theorem dX6_listAll_90 : decode cX6_listAll 90 = .ok (.iload_n 3, 1) := by decide +kernel
theorem dX6_listAll_91 : decode cX6_listAll 91 = .ok (.invokevirtual 63, 3) := by decide +kernel
theorem dX6_listAll_94 : decode cX6_listAll 94 = .ok (.iinc 3 (-1), 3) := by decide +kernel
theorem dX6_listAll_97 : decode cX6_listAll 97 = .ok (.goto (-66), 3) := by decide +kernel
theorem dX6_listAll_100 : decode cX6_listAll 100 = .ok (.return_, 1) := by decide +kernel
theorem dX6_numberPairs_0 : decode cX6_numberPairs 0 = .ok (.aload_n 0, 1) := by decide +kernel
theorem dX6_numberPairs_1 : decode cX6_numberPairs 1 = .ok (.aload_n 0, 1) := by decide +kernel
theorem dX6_numberPairs_2 : decode cX6_numberPairs 2 = .ok (.getfield 35, 3) := by decide +kernel
theorem dX6_numberPairs_5 : decode cX6_numberPairs 5 = .ok (.aload_n 0, 1) := by decide +kernel
theorem dX6_numberPairs_6 : decode cX6_numberPairs 6 = .ok (.getfield 35, 3) := by decide +kernel
theorem dX6_numberPairs_9 : decode cX6_numberPairs 9 = .ok (.iconst 1, 1) := by decide +kernel
theorem dX6_numberPairs_10 : decode cX6_numberPairs 10 = .ok (.isub, 1) := by decide +kernel
theorem dX6_numberPairs_11 : decode cX6_numberPairs 11 = .ok (.imul, 1) := by decide +kernel
theorem dX6_numberPairs_12 : decode cX6_numberPairs 12 = .ok (.iconst 2, 1) := by decide +kernel
theorem dX6_numberPairs_13 : decode cX6_numberPairs 13 = .ok (.idiv, 1) := by decide +kernel
theorem dX6_numberPairs_14 : decode cX6_numberPairs 14 = .ok (.putfield 47, 3) := by decide +kernel
theorem dX6_numberPairs_17 : decode cX6_numberPairs 17 = .ok (.aload_n 0, 1) := by decide +kernel
theorem dX6_numberPairs_18 : decode cX6_numberPairs 18 = .ok (.getfield 47, 3) := by decide +kernel
theorem dX6_numberPairs_21 : decode cX6_numberPairs 21 = .ok (.iconst 1, 1) := by decide +kernel
theorem dX6_numberPairs_22 : decode cX6_numberPairs 22 = .ok (.isub, 1) := by decide +kernel
theorem dX6_numberPairs_23 : decode cX6_numberPairs 23 = .ok (.istore_n 1, 1) := by decide +kernel
theorem dX6_numberPairs_24 : decode cX6_numberPairs 24 = .ok (.iconst 0, 1) := by decide +kernel
theorem dX6_numberPairs_25 : decode cX6_numberPairs 25 = .ok (.istore_n 2, 1) := by decide +kernel
theorem dX6_numberPairs_26 : decode cX6_numberPairs 26 = .ok (.iload_n 2, 1) := by decide +kernel
theorem dX6_numberPairs_27 : decode cX6_numberPairs 27 = .ok (.aload_n 0, 1) := by decide +kernel
theorem dX6_numberPairs_28 : decode cX6_numberPairs 28 = .ok (.getfield 35, 3) := by decide +kernel
theorem dX6_numberPairs_31 : decode cX6_numberPairs 31 = .ok (.if_icmp .ge 72, 3) := by decide +kernel
theorem dX6_numberPairs_34 : decode cX6_numberPairs 34 = .ok (.iload_n 2, 1) := by decide +kernel
theorem dX6_numberPairs_35 : decode cX6_numberPairs 35 = .ok (.iconst 1, 1) := by decide +kernel
theorem dX6_numberPairs_36 : decode cX6_numberPairs 36 = .ok (.iadd, 1) := by decide +kernel
theorem dX6_numberPairs_37 : decode cX6_numberPairs 37 = .ok (.istore_n 3, 1) := by decide +kernel
theorem dX6_numberPairs_38 : decode cX6_numberPairs 38 = .ok (.iload_n 3, 1) := by decide +kernel
theorem dX6_numberPairs_39 : decode cX6_numberPairs 39 = .ok (.aload_n 0, 1) := by decide +kernel
theorem dX6_numberPairs_40 : decode cX6_numberPairs 40 = .ok (.getfield 35, 3) := by decide +kernel
theorem dX6_numberPairs_43 : decode cX6_numberPairs 43 = .ok (.if_icmp .ge 54, 3) := by decide +kernel
theorem dX6_numberPairs_46 : decode cX6_numberPairs 46 = .ok (.aload_n 0, 1) := by decide +kernel
theorem dX6_numberPairs_47 : decode cX6_numberPairs 47 = .ok (.getfield 13, 3) := by decide +kernel
theorem dX6_numberPairs_50 : decode cX6_numberPairs 50 = .ok (.iload_n 1, 1) := by decide +kernel
theorem dX6_numberPairs_51 : decode cX6_numberPairs 51 = .ok (.iload_n 2, 1) := by decide +kernel
theorem dX6_numberPairs_52 : decode cX6_numberPairs 52 = .ok (.iastore, 1) := by decide +kernel
theorem dX6_numberPairs_53 : decode cX6_numberPairs 53 = .ok (.aload_n 0, 1) := by decide +kernel
theorem dX6_numberPairs_54 : decode cX6_numberPairs 54 = .ok (.getfield 16, 3) := by decide +kernel
theorem dX6_numberPairs_57 : decode cX6_numberPairs 57 = .ok (.iload_n 1, 1) := by decide +kernel
theorem dX6_numberPairs_58 : decode cX6_numberPairs 58 = .ok (.iload_n 3, 1) := by decide +kernel
theorem dX6_numberPairs_59 : decode cX6_numberPairs 59 = .ok (.iastore, 1) := by decide +kernel
theorem dX6_numberPairs_60 : decode cX6_numberPairs 60 = .ok (.aload_n 0, 1) := by decide +kernel
theorem dX6_numberPairs_61 : decode cX6_numberPairs 61 = .ok (.getfield 19, 3) := by decide +kernel
theorem dX6_numberPairs_64 : decode cX6_numberPairs 64 = .ok (.iload_n 2, 1) := by decide +kernel
theorem dX6_numberPairs_65 : decode cX6_numberPairs 65 = .ok (.bipush 6, 2) := by decide +kernel
theorem dX6_numberPairs_67 : decode cX6_numberPairs 67 = .ok (.imul, 1) := by decide +kernel
theorem dX6_numberPairs_68 : decode cX6_numberPairs 68 = .ok (.iload_n 3, 1) := by decide +kernel
theorem dX6_numberPairs_69 : decode cX6_numberPairs 69 = .ok (.iadd, 1) := by decide +kernel
theorem dX6_numberPairs_70 : decode cX6_numberPairs 70 = .ok (.iconst 1, 1) := by decide +kernel
theorem dX6_numberPairs_71 : decode cX6_numberPairs 71 = .ok (.iload_n 1, 1) := by decide +kernel
theorem dX6_numberPairs_72 : decode cX6_numberPairs 72 = .ok (.ishl, 1) := by decide +kernel
theorem dX6_numberPairs_73 : decode cX6_numberPairs 73 = .ok (.iastore, 1) := by decide +kernel
theorem dX6_numberPairs_74 : decode cX6_numberPairs 74 = .ok (.aload_n 0, 1) := by decide +kernel
theorem dX6_numberPairs_75 : decode cX6_numberPairs 75 = .ok (.getfield 19, 3) := by decide +kernel
theorem dX6_numberPairs_78 : decode cX6_numberPairs 78 = .ok (.iload_n 3, 1) := by decide +kernel
theorem dX6_numberPairs_79 : decode cX6_numberPairs 79 = .ok (.bipush 6, 2) := by decide +kernel
theorem dX6_numberPairs_81 : decode cX6_numberPairs 81 = .ok (.imul, 1) := by decide +kernel
theorem dX6_numberPairs_82 : decode cX6_numberPairs 82 = .ok (.iload_n 2, 1) := by decide +kernel
theorem dX6_numberPairs_83 : decode cX6_numberPairs 83 = .ok (.iadd, 1) := by decide +kernel
theorem dX6_numberPairs_84 : decode cX6_numberPairs 84 = .ok (.iconst 1, 1) := by decide +kernel
theorem dX6_numberPairs_85 : decode cX6_numberPairs 85 = .ok (.iload_n 1, 1) := by decide +kernel
theorem dX6_numberPairs_86 : decode cX6_numberPairs 86 = .ok (.ishl, 1) := by decide +kernel
theorem dX6_numberPairs_87 : decode cX6_numberPairs 87 = .ok (.iastore, 1) := by decide +kernel
theorem dX6_numberPairs_88 : decode cX6_numberPairs 88 = .ok (.iinc 1 (-1), 3) := by decide +kernel
theorem dX6_numberPairs_91 : decode cX6_numberPairs 91 = .ok (.iinc 3 1, 3) := by decide +kernel
theorem dX6_numberPairs_94 : decode cX6_numberPairs 94 = .ok (.goto (-56), 3) := by decide +kernel
theorem dX6_numberPairs_97 : decode cX6_numberPairs 97 = .ok (.iinc 2 1, 3) := by decide +kernel
theorem dX6_numberPairs_100 : decode cX6_numberPairs 100 = .ok (.goto (-74), 3) := by decide +kernel
theorem dX6_numberPairs_103 : decode cX6_numberPairs 103 = .ok (.return_, 1) := by decide +kernel
theorem dX6_isSeen_0 : decode cX6_isSeen 0 = .ok (.aload_n 0, 1) := by decide +kernel
theorem dX6_isSeen_1 : decode cX6_isSeen 1 = .ok (.getfield 28, 3) := by decide +kernel
theorem dX6_isSeen_4 : decode cX6_isSeen 4 = .ok (.iload_n 1, 1) := by decide +kernel
theorem dX6_isSeen_5 : decode cX6_isSeen 5 = .ok (.iconst 5, 1) := by decide +kernel
theorem dX6_isSeen_6 : decode cX6_isSeen 6 = .ok (.ishr, 1) := by decide +kernel
theorem dX6_isSeen_7 : decode cX6_isSeen 7 = .ok (.iaload, 1) := by decide +kernel
theorem dX6_isSeen_8 : decode cX6_isSeen 8 = .ok (.iload_n 1, 1) := by decide +kernel
theorem dX6_isSeen_9 : decode cX6_isSeen 9 = .ok (.bipush 31, 2) := by decide +kernel
theorem dX6_isSeen_11 : decode cX6_isSeen 11 = .ok (.iand, 1) := by decide +kernel
theorem dX6_isSeen_12 : decode cX6_isSeen 12 = .ok (.ishr, 1) := by decide +kernel
theorem dX6_isSeen_13 : decode cX6_isSeen 13 = .ok (.iconst 1, 1) := by decide +kernel
theorem dX6_isSeen_14 : decode cX6_isSeen 14 = .ok (.iand, 1) := by decide +kernel
theorem dX6_isSeen_15 : decode cX6_isSeen 15 = .ok (.iconst 1, 1) := by decide +kernel
theorem dX6_isSeen_16 : decode cX6_isSeen 16 = .ok (.if_icmp .ne 7, 3) := by decide +kernel
theorem dX6_isSeen_19 : decode cX6_isSeen 19 = .ok (.iconst 1, 1) := by decide +kernel
theorem dX6_isSeen_20 : decode cX6_isSeen 20 = .ok (.goto 4, 3) := by decide +kernel
theorem dX6_isSeen_23 : decode cX6_isSeen 23 = .ok (.iconst 0, 1) := by decide +kernel
theorem dX6_isSeen_24 : decode cX6_isSeen 24 = .ok (.ireturn, 1) := by decide +kernel
theorem dX6_isChain_0 : decode cX6_isChain 0 = .ok (.aload_n 0, 1) := by decide +kernel
theorem dX6_isChain_1 : decode cX6_isChain 1 = .ok (.getfield 22, 3) := by decide +kernel
theorem dX6_isChain_4 : decode cX6_isChain 4 = .ok (.iconst 0, 1) := by decide +kernel
theorem dX6_isChain_5 : decode cX6_isChain 5 = .ok (.invokestatic 41, 3) := by decide +kernel
theorem dX6_isChain_8 : decode cX6_isChain 8 = .ok (.iconst 0, 1) := by decide +kernel
theorem dX6_isChain_9 : decode cX6_isChain 9 = .ok (.istore_n 2, 1) := by decide +kernel
theorem dX6_isChain_10 : decode cX6_isChain 10 = .ok (.iload_n 2, 1) := by decide +kernel
theorem dX6_isChain_11 : decode cX6_isChain 11 = .ok (.aload_n 0, 1) := by decide +kernel
theorem dX6_isChain_12 : decode cX6_isChain 12 = .ok (.getfield 47, 3) := by decide +kernel
theorem dX6_isChain_15 : decode cX6_isChain 15 = .ok (.if_icmp .ge 62, 3) := by decide +kernel
theorem dX6_isChain_18 : decode cX6_isChain 18 = .ok (.iload_n 1, 1) := by decide +kernel
theorem dX6_isChain_19 : decode cX6_isChain 19 = .ok (.iload_n 2, 1) := by decide +kernel
theorem dX6_isChain_20 : decode cX6_isChain 20 = .ok (.ishr, 1) := by decide +kernel
theorem dX6_isChain_21 : decode cX6_isChain 21 = .ok (.iconst 1, 1) := by decide +kernel
theorem dX6_isChain_22 : decode cX6_isChain 22 = .ok (.iand, 1) := by decide +kernel
theorem dX6_isChain_23 : decode cX6_isChain 23 = .ok (.iconst 1, 1) := by decide +kernel
theorem dX6_isChain_24 : decode cX6_isChain 24 = .ok (.if_icmp .ne 47, 3) := by decide +kernel
theorem dX6_isChain_27 : decode cX6_isChain 27 = .ok (.aload_n 0, 1) := by decide +kernel
theorem dX6_isChain_28 : decode cX6_isChain 28 = .ok (.getfield 22, 3) := by decide +kernel
theorem dX6_isChain_31 : decode cX6_isChain 31 = .ok (.aload_n 0, 1) := by decide +kernel
theorem dX6_isChain_32 : decode cX6_isChain 32 = .ok (.getfield 13, 3) := by decide +kernel
theorem dX6_isChain_35 : decode cX6_isChain 35 = .ok (.iload_n 2, 1) := by decide +kernel
theorem dX6_isChain_36 : decode cX6_isChain 36 = .ok (.iaload, 1) := by decide +kernel
theorem dX6_isChain_37 : decode cX6_isChain 37 = .ok (.dup2, 1) := by decide +kernel
theorem dX6_isChain_38 : decode cX6_isChain 38 = .ok (.iaload, 1) := by decide +kernel
theorem dX6_isChain_39 : decode cX6_isChain 39 = .ok (.iconst 1, 1) := by decide +kernel
theorem dX6_isChain_40 : decode cX6_isChain 40 = .ok (.aload_n 0, 1) := by decide +kernel
theorem dX6_isChain_41 : decode cX6_isChain 41 = .ok (.getfield 16, 3) := by decide +kernel
theorem dX6_isChain_44 : decode cX6_isChain 44 = .ok (.iload_n 2, 1) := by decide +kernel
theorem dX6_isChain_45 : decode cX6_isChain 45 = .ok (.iaload, 1) := by decide +kernel
theorem dX6_isChain_46 : decode cX6_isChain 46 = .ok (.ishl, 1) := by decide +kernel
theorem dX6_isChain_47 : decode cX6_isChain 47 = .ok (.ior, 1) := by decide +kernel
theorem dX6_isChain_48 : decode cX6_isChain 48 = .ok (.iastore, 1) := by decide +kernel
theorem dX6_isChain_49 : decode cX6_isChain 49 = .ok (.aload_n 0, 1) := by decide +kernel
theorem dX6_isChain_50 : decode cX6_isChain 50 = .ok (.getfield 22, 3) := by decide +kernel
theorem dX6_isChain_53 : decode cX6_isChain 53 = .ok (.aload_n 0, 1) := by decide +kernel
theorem dX6_isChain_54 : decode cX6_isChain 54 = .ok (.getfield 16, 3) := by decide +kernel
theorem dX6_isChain_57 : decode cX6_isChain 57 = .ok (.iload_n 2, 1) := by decide +kernel
theorem dX6_isChain_58 : decode cX6_isChain 58 = .ok (.iaload, 1) := by decide +kernel
theorem dX6_isChain_59 : decode cX6_isChain 59 = .ok (.dup2, 1) := by decide +kernel
theorem dX6_isChain_60 : decode cX6_isChain 60 = .ok (.iaload, 1) := by decide +kernel
theorem dX6_isChain_61 : decode cX6_isChain 61 = .ok (.iconst 1, 1) := by decide +kernel
theorem dX6_isChain_62 : decode cX6_isChain 62 = .ok (.aload_n 0, 1) := by decide +kernel
theorem dX6_isChain_63 : decode cX6_isChain 63 = .ok (.getfield 13, 3) := by decide +kernel
theorem dX6_isChain_66 : decode cX6_isChain 66 = .ok (.iload_n 2, 1) := by decide +kernel
theorem dX6_isChain_67 : decode cX6_isChain 67 = .ok (.iaload, 1) := by decide +kernel
theorem dX6_isChain_68 : decode cX6_isChain 68 = .ok (.ishl, 1) := by decide +kernel
theorem dX6_isChain_69 : decode cX6_isChain 69 = .ok (.ior, 1) := by decide +kernel
theorem dX6_isChain_70 : decode cX6_isChain 70 = .ok (.iastore, 1) := by decide +kernel
theorem dX6_isChain_71 : decode cX6_isChain 71 = .ok (.iinc 2 1, 3) := by decide +kernel
theorem dX6_isChain_74 : decode cX6_isChain 74 = .ok (.goto (-64), 3) := by decide +kernel
theorem dX6_isChain_77 : decode cX6_isChain 77 = .ok (.iconst 0, 1) := by decide +kernel
theorem dX6_isChain_78 : decode cX6_isChain 78 = .ok (.istore_n 2, 1) := by decide +kernel
theorem dX6_isChain_79 : decode cX6_isChain 79 = .ok (.iload_n 2, 1) := by decide +kernel
theorem dX6_isChain_80 : decode cX6_isChain 80 = .ok (.aload_n 0, 1) := by decide +kernel
theorem dX6_isChain_81 : decode cX6_isChain 81 = .ok (.getfield 35, 3) := by decide +kernel
theorem dX6_isChain_84 : decode cX6_isChain 84 = .ok (.if_icmp .ge 24, 3) := by decide +kernel
theorem dX6_isChain_87 : decode cX6_isChain 87 = .ok (.aload_n 0, 1) := by decide +kernel
theorem dX6_isChain_88 : decode cX6_isChain 88 = .ok (.getfield 22, 3) := by decide +kernel
theorem dX6_isChain_91 : decode cX6_isChain 91 = .ok (.iload_n 2, 1) := by decide +kernel
theorem dX6_isChain_92 : decode cX6_isChain 92 = .ok (.iaload, 1) := by decide +kernel
theorem dX6_isChain_93 : decode cX6_isChain 93 = .ok (.invokestatic 50, 3) := by decide +kernel
theorem dX6_isChain_96 : decode cX6_isChain 96 = .ok (.iconst 2, 1) := by decide +kernel
theorem dX6_isChain_97 : decode cX6_isChain 97 = .ok (.if_icmp .ge 5, 3) := by decide +kernel
theorem dX6_isChain_100 : decode cX6_isChain 100 = .ok (.iconst 0, 1) := by decide +kernel
theorem dX6_isChain_101 : decode cX6_isChain 101 = .ok (.ireturn, 1) := by decide +kernel
theorem dX6_isChain_102 : decode cX6_isChain 102 = .ok (.iinc 2 1, 3) := by decide +kernel
theorem dX6_isChain_105 : decode cX6_isChain 105 = .ok (.goto (-26), 3) := by decide +kernel
theorem dX6_isChain_108 : decode cX6_isChain 108 = .ok (.aload_n 0, 1) := by decide +kernel
theorem dX6_isChain_109 : decode cX6_isChain 109 = .ok (.invokevirtual 67, 3) := by decide +kernel
theorem dX6_isChain_112 : decode cX6_isChain 112 = .ok (.ifCond .eq 14, 3) := by decide +kernel
theorem dX6_isChain_115 : decode cX6_isChain 115 = .ok (.aload_n 0, 1) := by decide +kernel
theorem dX6_isChain_116 : decode cX6_isChain 116 = .ok (.invokevirtual 71, 3) := by decide +kernel
theorem dX6_isChain_119 : decode cX6_isChain 119 = .ok (.ifCond .ne 7, 3) := by decide +kernel
theorem dX6_isChain_122 : decode cX6_isChain 122 = .ok (.iconst 1, 1) := by decide +kernel
theorem dX6_isChain_123 : decode cX6_isChain 123 = .ok (.goto 4, 3) := by decide +kernel
theorem dX6_isChain_126 : decode cX6_isChain 126 = .ok (.iconst 0, 1) := by decide +kernel
theorem dX6_isChain_127 : decode cX6_isChain 127 = .ok (.ireturn, 1) := by decide +kernel
theorem dX6_isInOnePiece_0 : decode cX6_isInOnePiece 0 = .ok (.iconst 1, 1) := by decide +kernel
theorem dX6_isInOnePiece_1 : decode cX6_isInOnePiece 1 = .ok (.istore_n 1, 1) := by decide +kernel
theorem dX6_isInOnePiece_2 : decode cX6_isInOnePiece 2 = .ok (.iconst 0, 1) := by decide +kernel
theorem dX6_isInOnePiece_3 : decode cX6_isInOnePiece 3 = .ok (.istore_n 2, 1) := by decide +kernel
theorem dX6_isInOnePiece_4 : decode cX6_isInOnePiece 4 = .ok (.iload_n 2, 1) := by decide +kernel
theorem dX6_isInOnePiece_5 : decode cX6_isInOnePiece 5 = .ok (.aload_n 0, 1) := by decide +kernel
theorem dX6_isInOnePiece_6 : decode cX6_isInOnePiece 6 = .ok (.getfield 35, 3) := by decide +kernel
theorem dX6_isInOnePiece_9 : decode cX6_isInOnePiece 9 = .ok (.if_icmp .ge 43, 3) := by decide +kernel
theorem dX6_isInOnePiece_12 : decode cX6_isInOnePiece 12 = .ok (.iconst 0, 1) := by decide +kernel
theorem dX6_isInOnePiece_13 : decode cX6_isInOnePiece 13 = .ok (.istore_n 3, 1) := by decide +kernel
theorem dX6_isInOnePiece_14 : decode cX6_isInOnePiece 14 = .ok (.iload_n 3, 1) := by decide +kernel
theorem dX6_isInOnePiece_15 : decode cX6_isInOnePiece 15 = .ok (.aload_n 0, 1) := by decide +kernel
theorem dX6_isInOnePiece_16 : decode cX6_isInOnePiece 16 = .ok (.getfield 35, 3) := by decide +kernel
theorem dX6_isInOnePiece_19 : decode cX6_isInOnePiece 19 = .ok (.if_icmp .ge 27, 3) := by decide +kernel
theorem dX6_isInOnePiece_22 : decode cX6_isInOnePiece 22 = .ok (.iload_n 1, 1) := by decide +kernel
theorem dX6_isInOnePiece_23 : decode cX6_isInOnePiece 23 = .ok (.iload_n 3, 1) := by decide +kernel
theorem dX6_isInOnePiece_24 : decode cX6_isInOnePiece 24 = .ok (.ishr, 1) := by decide +kernel
theorem dX6_isInOnePiece_25 : decode cX6_isInOnePiece 25 = .ok (.iconst 1, 1) := by decide +kernel
theorem dX6_isInOnePiece_26 : decode cX6_isInOnePiece 26 = .ok (.iand, 1) := by decide +kernel
theorem dX6_isInOnePiece_27 : decode cX6_isInOnePiece 27 = .ok (.iconst 1, 1) := by decide +kernel
theorem dX6_isInOnePiece_28 : decode cX6_isInOnePiece 28 = .ok (.if_icmp .ne 12, 3) := by decide +kernel
theorem dX6_isInOnePiece_31 : decode cX6_isInOnePiece 31 = .ok (.iload_n 1, 1) := by decide +kernel
theorem dX6_isInOnePiece_32 : decode cX6_isInOnePiece 32 = .ok (.aload_n 0, 1) := by decide +kernel
theorem dX6_isInOnePiece_33 : decode cX6_isInOnePiece 33 = .ok (.getfield 22, 3) := by decide +kernel
theorem dX6_isInOnePiece_36 : decode cX6_isInOnePiece 36 = .ok (.iload_n 3, 1) := by decide +kernel
theorem dX6_isInOnePiece_37 : decode cX6_isInOnePiece 37 = .ok (.iaload, 1) := by decide +kernel
theorem dX6_isInOnePiece_38 : decode cX6_isInOnePiece 38 = .ok (.ior, 1) := by decide +kernel
theorem dX6_isInOnePiece_39 : decode cX6_isInOnePiece 39 = .ok (.istore_n 1, 1) := by decide +kernel
theorem dX6_isInOnePiece_40 : decode cX6_isInOnePiece 40 = .ok (.iinc 3 1, 3) := by decide +kernel
theorem dX6_isInOnePiece_43 : decode cX6_isInOnePiece 43 = .ok (.goto (-29), 3) := by decide +kernel
theorem dX6_isInOnePiece_46 : decode cX6_isInOnePiece 46 = .ok (.iinc 2 1, 3) := by decide +kernel
theorem dX6_isInOnePiece_49 : decode cX6_isInOnePiece 49 = .ok (.goto (-45), 3) := by decide +kernel
theorem dX6_isInOnePiece_52 : decode cX6_isInOnePiece 52 = .ok (.iload_n 1, 1) := by decide +kernel
theorem dX6_isInOnePiece_53 : decode cX6_isInOnePiece 53 = .ok (.iconst 1, 1) := by decide +kernel
theorem dX6_isInOnePiece_54 : decode cX6_isInOnePiece 54 = .ok (.aload_n 0, 1) := by decide +kernel
theorem dX6_isInOnePiece_55 : decode cX6_isInOnePiece 55 = .ok (.getfield 35, 3) := by decide +kernel
theorem dX6_isInOnePiece_58 : decode cX6_isInOnePiece 58 = .ok (.ishl, 1) := by decide +kernel
theorem dX6_isInOnePiece_59 : decode cX6_isInOnePiece 59 = .ok (.iconst 1, 1) := by decide +kernel
theorem dX6_isInOnePiece_60 : decode cX6_isInOnePiece 60 = .ok (.isub, 1) := by decide +kernel
theorem dX6_isInOnePiece_61 : decode cX6_isInOnePiece 61 = .ok (.if_icmp .ne 7, 3) := by decide +kernel
theorem dX6_isInOnePiece_64 : decode cX6_isInOnePiece 64 = .ok (.iconst 1, 1) := by decide +kernel
theorem dX6_isInOnePiece_65 : decode cX6_isInOnePiece 65 = .ok (.goto 4, 3) := by decide +kernel
theorem dX6_isInOnePiece_68 : decode cX6_isInOnePiece 68 = .ok (.iconst 0, 1) := by decide +kernel
theorem dX6_isInOnePiece_69 : decode cX6_isInOnePiece 69 = .ok (.ireturn, 1) := by decide +kernel
theorem dX6_hasStiffPart_0 : decode cX6_hasStiffPart 0 = .ok (.iconst 1, 1) := by decide +kernel
theorem dX6_hasStiffPart_1 : decode cX6_hasStiffPart 1 = .ok (.istore_n 1, 1) := by decide +kernel
theorem dX6_hasStiffPart_2 : decode cX6_hasStiffPart 2 = .ok (.iload_n 1, 1) := by decide +kernel
theorem dX6_hasStiffPart_3 : decode cX6_hasStiffPart 3 = .ok (.iconst 1, 1) := by decide +kernel
theorem dX6_hasStiffPart_4 : decode cX6_hasStiffPart 4 = .ok (.aload_n 0, 1) := by decide +kernel
theorem dX6_hasStiffPart_5 : decode cX6_hasStiffPart 5 = .ok (.getfield 35, 3) := by decide +kernel
theorem dX6_hasStiffPart_8 : decode cX6_hasStiffPart 8 = .ok (.ishl, 1) := by decide +kernel
theorem dX6_hasStiffPart_9 : decode cX6_hasStiffPart 9 = .ok (.iconst 1, 1) := by decide +kernel
theorem dX6_hasStiffPart_10 : decode cX6_hasStiffPart 10 = .ok (.isub, 1) := by decide +kernel
theorem dX6_hasStiffPart_11 : decode cX6_hasStiffPart 11 = .ok (.if_icmp .ge 71, 3) := by decide +kernel
theorem dX6_hasStiffPart_14 : decode cX6_hasStiffPart 14 = .ok (.iconst 0, 1) := by decide +kernel
theorem dX6_hasStiffPart_15 : decode cX6_hasStiffPart 15 = .ok (.istore_n 2, 1) := by decide +kernel
theorem dX6_hasStiffPart_16 : decode cX6_hasStiffPart 16 = .ok (.iconst 0, 1) := by decide +kernel
theorem dX6_hasStiffPart_17 : decode cX6_hasStiffPart 17 = .ok (.istore_n 3, 1) := by decide +kernel
theorem dX6_hasStiffPart_18 : decode cX6_hasStiffPart 18 = .ok (.iload_n 3, 1) := by decide +kernel
theorem dX6_hasStiffPart_19 : decode cX6_hasStiffPart 19 = .ok (.aload_n 0, 1) := by decide +kernel
theorem dX6_hasStiffPart_20 : decode cX6_hasStiffPart 20 = .ok (.getfield 35, 3) := by decide +kernel
theorem dX6_hasStiffPart_23 : decode cX6_hasStiffPart 23 = .ok (.if_icmp .ge 32, 3) := by decide +kernel
theorem dX6_hasStiffPart_26 : decode cX6_hasStiffPart 26 = .ok (.iload_n 1, 1) := by decide +kernel
theorem dX6_hasStiffPart_27 : decode cX6_hasStiffPart 27 = .ok (.iload_n 3, 1) := by decide +kernel
theorem dX6_hasStiffPart_28 : decode cX6_hasStiffPart 28 = .ok (.ishr, 1) := by decide +kernel
theorem dX6_hasStiffPart_29 : decode cX6_hasStiffPart 29 = .ok (.iconst 1, 1) := by decide +kernel
theorem dX6_hasStiffPart_30 : decode cX6_hasStiffPart 30 = .ok (.iand, 1) := by decide +kernel
theorem dX6_hasStiffPart_31 : decode cX6_hasStiffPart 31 = .ok (.iconst 1, 1) := by decide +kernel
theorem dX6_hasStiffPart_32 : decode cX6_hasStiffPart 32 = .ok (.if_icmp .ne 17, 3) := by decide +kernel
theorem dX6_hasStiffPart_35 : decode cX6_hasStiffPart 35 = .ok (.iload_n 2, 1) := by decide +kernel
theorem dX6_hasStiffPart_36 : decode cX6_hasStiffPart 36 = .ok (.aload_n 0, 1) := by decide +kernel
theorem dX6_hasStiffPart_37 : decode cX6_hasStiffPart 37 = .ok (.getfield 22, 3) := by decide +kernel
theorem dX6_hasStiffPart_40 : decode cX6_hasStiffPart 40 = .ok (.iload_n 3, 1) := by decide +kernel
theorem dX6_hasStiffPart_41 : decode cX6_hasStiffPart 41 = .ok (.iaload, 1) := by decide +kernel
theorem dX6_hasStiffPart_42 : decode cX6_hasStiffPart 42 = .ok (.iload_n 1, 1) := by decide +kernel
theorem dX6_hasStiffPart_43 : decode cX6_hasStiffPart 43 = .ok (.iand, 1) := by decide +kernel
theorem dX6_hasStiffPart_44 : decode cX6_hasStiffPart 44 = .ok (.invokestatic 50, 3) := by decide +kernel
theorem dX6_hasStiffPart_47 : decode cX6_hasStiffPart 47 = .ok (.iadd, 1) := by decide +kernel
theorem dX6_hasStiffPart_48 : decode cX6_hasStiffPart 48 = .ok (.istore_n 2, 1) := by decide +kernel
theorem dX6_hasStiffPart_49 : decode cX6_hasStiffPart 49 = .ok (.iinc 3 1, 3) := by decide +kernel
theorem dX6_hasStiffPart_52 : decode cX6_hasStiffPart 52 = .ok (.goto (-34), 3) := by decide +kernel
theorem dX6_hasStiffPart_55 : decode cX6_hasStiffPart 55 = .ok (.iload_n 1, 1) := by decide +kernel
theorem dX6_hasStiffPart_56 : decode cX6_hasStiffPart 56 = .ok (.invokestatic 50, 3) := by decide +kernel
theorem dX6_hasStiffPart_59 : decode cX6_hasStiffPart 59 = .ok (.istore_n 3, 1) := by decide +kernel
theorem dX6_hasStiffPart_60 : decode cX6_hasStiffPart 60 = .ok (.iload_n 3, 1) := by decide +kernel
theorem dX6_hasStiffPart_61 : decode cX6_hasStiffPart 61 = .ok (.iconst 2, 1) := by decide +kernel
theorem dX6_hasStiffPart_62 : decode cX6_hasStiffPart 62 = .ok (.if_icmp .lt 14, 3) := by decide +kernel
theorem dX6_hasStiffPart_65 : decode cX6_hasStiffPart 65 = .ok (.iload_n 2, 1) := by decide +kernel
theorem dX6_hasStiffPart_66 : decode cX6_hasStiffPart 66 = .ok (.iconst 3, 1) := by decide +kernel
theorem dX6_hasStiffPart_67 : decode cX6_hasStiffPart 67 = .ok (.iload_n 3, 1) := by decide +kernel
theorem dX6_hasStiffPart_68 : decode cX6_hasStiffPart 68 = .ok (.imul, 1) := by decide +kernel
theorem dX6_hasStiffPart_69 : decode cX6_hasStiffPart 69 = .ok (.iconst 3, 1) := by decide +kernel
theorem dX6_hasStiffPart_70 : decode cX6_hasStiffPart 70 = .ok (.isub, 1) := by decide +kernel
theorem dX6_hasStiffPart_71 : decode cX6_hasStiffPart 71 = .ok (.if_icmp .le 5, 3) := by decide +kernel
theorem dX6_hasStiffPart_74 : decode cX6_hasStiffPart 74 = .ok (.iconst 1, 1) := by decide +kernel
theorem dX6_hasStiffPart_75 : decode cX6_hasStiffPart 75 = .ok (.ireturn, 1) := by decide +kernel
theorem dX6_hasStiffPart_76 : decode cX6_hasStiffPart 76 = .ok (.iinc 1 1, 3) := by decide +kernel
theorem dX6_hasStiffPart_79 : decode cX6_hasStiffPart 79 = .ok (.goto (-77), 3) := by decide +kernel
theorem dX6_hasStiffPart_82 : decode cX6_hasStiffPart 82 = .ok (.iconst 0, 1) := by decide +kernel
theorem dX6_hasStiffPart_83 : decode cX6_hasStiffPart 83 = .ok (.ireturn, 1) := by decide +kernel
theorem dX6_seeAllLike_0 : decode cX6_seeAllLike 0 = .ok (.iconst 1, 1) := by decide +kernel
theorem dX6_seeAllLike_1 : decode cX6_seeAllLike 1 = .ok (.istore_n 2, 1) := by decide +kernel
theorem dX6_seeAllLike_2 : decode cX6_seeAllLike 2 = .ok (.iconst 2, 1) := by decide +kernel
theorem dX6_seeAllLike_3 : decode cX6_seeAllLike 3 = .ok (.istore_n 3, 1) := by decide +kernel
theorem dX6_seeAllLike_4 : decode cX6_seeAllLike 4 = .ok (.iload_n 3, 1) := by decide +kernel
theorem dX6_seeAllLike_5 : decode cX6_seeAllLike 5 = .ok (.aload_n 0, 1) := by decide +kernel
theorem dX6_seeAllLike_6 : decode cX6_seeAllLike 6 = .ok (.getfield 35, 3) := by decide +kernel
theorem dX6_seeAllLike_9 : decode cX6_seeAllLike 9 = .ok (.if_icmp .gt 13, 3) := by decide +kernel
theorem dX6_seeAllLike_12 : decode cX6_seeAllLike 12 = .ok (.iload_n 2, 1) := by decide +kernel
theorem dX6_seeAllLike_13 : decode cX6_seeAllLike 13 = .ok (.iload_n 3, 1) := by decide +kernel
theorem dX6_seeAllLike_14 : decode cX6_seeAllLike 14 = .ok (.imul, 1) := by decide +kernel
theorem dX6_seeAllLike_15 : decode cX6_seeAllLike 15 = .ok (.istore_n 2, 1) := by decide +kernel
theorem dX6_seeAllLike_16 : decode cX6_seeAllLike 16 = .ok (.iinc 3 1, 3) := by decide +kernel
theorem dX6_seeAllLike_19 : decode cX6_seeAllLike 19 = .ok (.goto (-15), 3) := by decide +kernel
theorem dX6_seeAllLike_22 : decode cX6_seeAllLike 22 = .ok (.iconst 0, 1) := by decide +kernel
theorem dX6_seeAllLike_23 : decode cX6_seeAllLike 23 = .ok (.istore_n 3, 1) := by decide +kernel
theorem dX6_seeAllLike_24 : decode cX6_seeAllLike 24 = .ok (.iload_n 3, 1) := by decide +kernel
theorem dX6_seeAllLike_25 : decode cX6_seeAllLike 25 = .ok (.iload_n 2, 1) := by decide +kernel
theorem dX6_seeAllLike_26 : decode cX6_seeAllLike 26 = .ok (.if_icmp .ge 40, 3) := by decide +kernel
theorem dX6_seeAllLike_29 : decode cX6_seeAllLike 29 = .ok (.aload_n 0, 1) := by decide +kernel
theorem dX6_seeAllLike_30 : decode cX6_seeAllLike 30 = .ok (.iload_n 3, 1) := by decide +kernel
theorem dX6_seeAllLike_31 : decode cX6_seeAllLike 31 = .ok (.invokevirtual 74, 3) := by decide +kernel
theorem dX6_seeAllLike_34 : decode cX6_seeAllLike 34 = .ok (.aload_n 0, 1) := by decide +kernel
theorem dX6_seeAllLike_35 : decode cX6_seeAllLike 35 = .ok (.iload_n 1, 1) := by decide +kernel
theorem dX6_seeAllLike_36 : decode cX6_seeAllLike 36 = .ok (.invokevirtual 77, 3) := by decide +kernel
theorem dX6_seeAllLike_39 : decode cX6_seeAllLike 39 = .ok (.istore 4, 2) := by decide +kernel
theorem dX6_seeAllLike_41 : decode cX6_seeAllLike 41 = .ok (.aload_n 0, 1) := by decide +kernel
theorem dX6_seeAllLike_42 : decode cX6_seeAllLike 42 = .ok (.getfield 28, 3) := by decide +kernel
theorem dX6_seeAllLike_45 : decode cX6_seeAllLike 45 = .ok (.iload 4, 2) := by decide +kernel
theorem dX6_seeAllLike_47 : decode cX6_seeAllLike 47 = .ok (.iconst 5, 1) := by decide +kernel
theorem dX6_seeAllLike_48 : decode cX6_seeAllLike 48 = .ok (.ishr, 1) := by decide +kernel
theorem dX6_seeAllLike_49 : decode cX6_seeAllLike 49 = .ok (.dup2, 1) := by decide +kernel
theorem dX6_seeAllLike_50 : decode cX6_seeAllLike 50 = .ok (.iaload, 1) := by decide +kernel
theorem dX6_seeAllLike_51 : decode cX6_seeAllLike 51 = .ok (.iconst 1, 1) := by decide +kernel
theorem dX6_seeAllLike_52 : decode cX6_seeAllLike 52 = .ok (.iload 4, 2) := by decide +kernel
theorem dX6_seeAllLike_54 : decode cX6_seeAllLike 54 = .ok (.bipush 31, 2) := by decide +kernel
theorem dX6_seeAllLike_56 : decode cX6_seeAllLike 56 = .ok (.iand, 1) := by decide +kernel
theorem dX6_seeAllLike_57 : decode cX6_seeAllLike 57 = .ok (.ishl, 1) := by decide +kernel
theorem dX6_seeAllLike_58 : decode cX6_seeAllLike 58 = .ok (.ior, 1) := by decide +kernel
theorem dX6_seeAllLike_59 : decode cX6_seeAllLike 59 = .ok (.iastore, 1) := by decide +kernel
theorem dX6_seeAllLike_60 : decode cX6_seeAllLike 60 = .ok (.iinc 3 1, 3) := by decide +kernel
theorem dX6_seeAllLike_63 : decode cX6_seeAllLike 63 = .ok (.goto (-39), 3) := by decide +kernel
theorem dX6_seeAllLike_66 : decode cX6_seeAllLike 66 = .ok (.return_, 1) := by decide +kernel
theorem dX6_writeSequence_0 : decode cX6_writeSequence 0 = .ok (.iload_n 1, 1) := by decide +kernel
theorem dX6_writeSequence_1 : decode cX6_writeSequence 1 = .ok (.istore_n 2, 1) := by decide +kernel
theorem dX6_writeSequence_2 : decode cX6_writeSequence 2 = .ok (.iconst 0, 1) := by decide +kernel
theorem dX6_writeSequence_3 : decode cX6_writeSequence 3 = .ok (.istore_n 3, 1) := by decide +kernel
theorem dX6_writeSequence_4 : decode cX6_writeSequence 4 = .ok (.iload_n 3, 1) := by decide +kernel
theorem dX6_writeSequence_5 : decode cX6_writeSequence 5 = .ok (.aload_n 0, 1) := by decide +kernel
theorem dX6_writeSequence_6 : decode cX6_writeSequence 6 = .ok (.getfield 35, 3) := by decide +kernel
theorem dX6_writeSequence_9 : decode cX6_writeSequence 9 = .ok (.if_icmp .ge 16, 3) := by decide +kernel
theorem dX6_writeSequence_12 : decode cX6_writeSequence 12 = .ok (.aload_n 0, 1) := by decide +kernel
theorem dX6_writeSequence_13 : decode cX6_writeSequence 13 = .ok (.getfield 25, 3) := by decide +kernel
theorem dX6_writeSequence_16 : decode cX6_writeSequence 16 = .ok (.iload_n 3, 1) := by decide +kernel
theorem dX6_writeSequence_17 : decode cX6_writeSequence 17 = .ok (.iload_n 3, 1) := by decide +kernel
theorem dX6_writeSequence_18 : decode cX6_writeSequence 18 = .ok (.iastore, 1) := by decide +kernel
theorem dX6_writeSequence_19 : decode cX6_writeSequence 19 = .ok (.iinc 3 1, 3) := by decide +kernel
theorem dX6_writeSequence_22 : decode cX6_writeSequence 22 = .ok (.goto (-18), 3) := by decide +kernel
theorem dX6_writeSequence_25 : decode cX6_writeSequence 25 = .ok (.iconst 1, 1) := by decide +kernel
theorem dX6_writeSequence_26 : decode cX6_writeSequence 26 = .ok (.istore_n 3, 1) := by decide +kernel
theorem dX6_writeSequence_27 : decode cX6_writeSequence 27 = .ok (.iload_n 3, 1) := by decide +kernel
theorem dX6_writeSequence_28 : decode cX6_writeSequence 28 = .ok (.aload_n 0, 1) := by decide +kernel
theorem dX6_writeSequence_29 : decode cX6_writeSequence 29 = .ok (.getfield 35, 3) := by decide +kernel
theorem dX6_writeSequence_32 : decode cX6_writeSequence 32 = .ok (.if_icmp .ge 52, 3) := by decide +kernel
theorem dX6_writeSequence_35 : decode cX6_writeSequence 35 = .ok (.iload_n 2, 1) := by decide +kernel
theorem dX6_writeSequence_36 : decode cX6_writeSequence 36 = .ok (.iload_n 3, 1) := by decide +kernel
theorem dX6_writeSequence_37 : decode cX6_writeSequence 37 = .ok (.iconst 1, 1) := by decide +kernel
theorem dX6_writeSequence_38 : decode cX6_writeSequence 38 = .ok (.iadd, 1) := by decide +kernel
theorem dX6_writeSequence_39 : decode cX6_writeSequence 39 = .ok (.irem, 1) := by decide +kernel
theorem dX6_writeSequence_40 : decode cX6_writeSequence 40 = .ok (.istore 4, 2) := by decide +kernel
theorem dX6_writeSequence_42 : decode cX6_writeSequence 42 = .ok (.iload_n 2, 1) := by decide +kernel
theorem dX6_writeSequence_43 : decode cX6_writeSequence 43 = .ok (.iload_n 3, 1) := by decide +kernel
theorem dX6_writeSequence_44 : decode cX6_writeSequence 44 = .ok (.iconst 1, 1) := by decide +kernel
theorem dX6_writeSequence_45 : decode cX6_writeSequence 45 = .ok (.iadd, 1) := by decide +kernel
theorem dX6_writeSequence_46 : decode cX6_writeSequence 46 = .ok (.idiv, 1) := by decide +kernel
theorem dX6_writeSequence_47 : decode cX6_writeSequence 47 = .ok (.istore_n 2, 1) := by decide +kernel
theorem dX6_writeSequence_48 : decode cX6_writeSequence 48 = .ok (.aload_n 0, 1) := by decide +kernel
theorem dX6_writeSequence_49 : decode cX6_writeSequence 49 = .ok (.getfield 25, 3) := by decide +kernel
theorem dX6_writeSequence_52 : decode cX6_writeSequence 52 = .ok (.iload_n 3, 1) := by decide +kernel
theorem dX6_writeSequence_53 : decode cX6_writeSequence 53 = .ok (.iaload, 1) := by decide +kernel
theorem dX6_writeSequence_54 : decode cX6_writeSequence 54 = .ok (.istore 5, 2) := by decide +kernel
theorem dX6_writeSequence_56 : decode cX6_writeSequence 56 = .ok (.aload_n 0, 1) := by decide +kernel
theorem dX6_writeSequence_57 : decode cX6_writeSequence 57 = .ok (.getfield 25, 3) := by decide +kernel
theorem dX6_writeSequence_60 : decode cX6_writeSequence 60 = .ok (.iload_n 3, 1) := by decide +kernel
theorem dX6_writeSequence_61 : decode cX6_writeSequence 61 = .ok (.aload_n 0, 1) := by decide +kernel
theorem dX6_writeSequence_62 : decode cX6_writeSequence 62 = .ok (.getfield 25, 3) := by decide +kernel
theorem dX6_writeSequence_65 : decode cX6_writeSequence 65 = .ok (.iload 4, 2) := by decide +kernel
theorem dX6_writeSequence_67 : decode cX6_writeSequence 67 = .ok (.iaload, 1) := by decide +kernel
theorem dX6_writeSequence_68 : decode cX6_writeSequence 68 = .ok (.iastore, 1) := by decide +kernel
theorem dX6_writeSequence_69 : decode cX6_writeSequence 69 = .ok (.aload_n 0, 1) := by decide +kernel
theorem dX6_writeSequence_70 : decode cX6_writeSequence 70 = .ok (.getfield 25, 3) := by decide +kernel
theorem dX6_writeSequence_73 : decode cX6_writeSequence 73 = .ok (.iload 4, 2) := by decide +kernel
theorem dX6_writeSequence_75 : decode cX6_writeSequence 75 = .ok (.iload 5, 2) := by decide +kernel
theorem dX6_writeSequence_77 : decode cX6_writeSequence 77 = .ok (.iastore, 1) := by decide +kernel
theorem dX6_writeSequence_78 : decode cX6_writeSequence 78 = .ok (.iinc 3 1, 3) := by decide +kernel
theorem dX6_writeSequence_81 : decode cX6_writeSequence 81 = .ok (.goto (-54), 3) := by decide +kernel
theorem dX6_writeSequence_84 : decode cX6_writeSequence 84 = .ok (.return_, 1) := by decide +kernel
theorem dX6_renumbered_0 : decode cX6_renumbered 0 = .ok (.iconst 0, 1) := by decide +kernel
theorem dX6_renumbered_1 : decode cX6_renumbered 1 = .ok (.istore_n 2, 1) := by decide +kernel
theorem dX6_renumbered_2 : decode cX6_renumbered 2 = .ok (.iconst 0, 1) := by decide +kernel
theorem dX6_renumbered_3 : decode cX6_renumbered 3 = .ok (.istore_n 3, 1) := by decide +kernel
theorem dX6_renumbered_4 : decode cX6_renumbered 4 = .ok (.iload_n 3, 1) := by decide +kernel
theorem dX6_renumbered_5 : decode cX6_renumbered 5 = .ok (.aload_n 0, 1) := by decide +kernel
theorem dX6_renumbered_6 : decode cX6_renumbered 6 = .ok (.getfield 47, 3) := by decide +kernel
theorem dX6_renumbered_9 : decode cX6_renumbered 9 = .ok (.if_icmp .ge 52, 3) := by decide +kernel
theorem dX6_renumbered_12 : decode cX6_renumbered 12 = .ok (.iload_n 1, 1) := by decide +kernel
theorem dX6_renumbered_13 : decode cX6_renumbered 13 = .ok (.iload_n 3, 1) := by decide +kernel
theorem dX6_renumbered_14 : decode cX6_renumbered 14 = .ok (.ishr, 1) := by decide +kernel
theorem dX6_renumbered_15 : decode cX6_renumbered 15 = .ok (.iconst 1, 1) := by decide +kernel
theorem dX6_renumbered_16 : decode cX6_renumbered 16 = .ok (.iand, 1) := by decide +kernel
theorem dX6_renumbered_17 : decode cX6_renumbered 17 = .ok (.iconst 1, 1) := by decide +kernel
theorem dX6_renumbered_18 : decode cX6_renumbered 18 = .ok (.if_icmp .ne 37, 3) := by decide +kernel
theorem dX6_renumbered_21 : decode cX6_renumbered 21 = .ok (.iload_n 2, 1) := by decide +kernel
theorem dX6_renumbered_22 : decode cX6_renumbered 22 = .ok (.aload_n 0, 1) := by decide +kernel
theorem dX6_renumbered_23 : decode cX6_renumbered 23 = .ok (.getfield 19, 3) := by decide +kernel
theorem dX6_renumbered_26 : decode cX6_renumbered 26 = .ok (.aload_n 0, 1) := by decide +kernel
theorem dX6_renumbered_27 : decode cX6_renumbered 27 = .ok (.getfield 25, 3) := by decide +kernel
theorem dX6_renumbered_30 : decode cX6_renumbered 30 = .ok (.aload_n 0, 1) := by decide +kernel
theorem dX6_renumbered_31 : decode cX6_renumbered 31 = .ok (.getfield 13, 3) := by decide +kernel
theorem dX6_renumbered_34 : decode cX6_renumbered 34 = .ok (.iload_n 3, 1) := by decide +kernel
theorem dX6_renumbered_35 : decode cX6_renumbered 35 = .ok (.iaload, 1) := by decide +kernel
theorem dX6_renumbered_36 : decode cX6_renumbered 36 = .ok (.iaload, 1) := by decide +kernel
theorem dX6_renumbered_37 : decode cX6_renumbered 37 = .ok (.bipush 6, 2) := by decide +kernel
theorem dX6_renumbered_39 : decode cX6_renumbered 39 = .ok (.imul, 1) := by decide +kernel
theorem dX6_renumbered_40 : decode cX6_renumbered 40 = .ok (.aload_n 0, 1) := by decide +kernel
theorem dX6_renumbered_41 : decode cX6_renumbered 41 = .ok (.getfield 25, 3) := by decide +kernel
theorem dX6_renumbered_44 : decode cX6_renumbered 44 = .ok (.aload_n 0, 1) := by decide +kernel
theorem dX6_renumbered_45 : decode cX6_renumbered 45 = .ok (.getfield 16, 3) := by decide +kernel
theorem dX6_renumbered_48 : decode cX6_renumbered 48 = .ok (.iload_n 3, 1) := by decide +kernel
theorem dX6_renumbered_49 : decode cX6_renumbered 49 = .ok (.iaload, 1) := by decide +kernel
theorem dX6_renumbered_50 : decode cX6_renumbered 50 = .ok (.iaload, 1) := by decide +kernel
theorem dX6_renumbered_51 : decode cX6_renumbered 51 = .ok (.iadd, 1) := by decide +kernel
theorem dX6_renumbered_52 : decode cX6_renumbered 52 = .ok (.iaload, 1) := by decide +kernel
theorem dX6_renumbered_53 : decode cX6_renumbered 53 = .ok (.ior, 1) := by decide +kernel
theorem dX6_renumbered_54 : decode cX6_renumbered 54 = .ok (.istore_n 2, 1) := by decide +kernel
theorem dX6_renumbered_55 : decode cX6_renumbered 55 = .ok (.iinc 3 1, 3) := by decide +kernel
theorem dX6_renumbered_58 : decode cX6_renumbered 58 = .ok (.goto (-54), 3) := by decide +kernel
theorem dX6_renumbered_61 : decode cX6_renumbered 61 = .ok (.iload_n 2, 1) := by decide +kernel
theorem dX6_renumbered_62 : decode cX6_renumbered 62 = .ok (.ireturn, 1) := by decide +kernel
theorem dX7_init_0 : decode cX7_init 0 = .ok (.aload_n 0, 1) := by decide +kernel
theorem dX7_init_1 : decode cX7_init 1 = .ok (.invokespecial 1, 3) := by decide +kernel
theorem dX7_init_4 : decode cX7_init 4 = .ok (.aload_n 0, 1) := by decide +kernel
theorem dX7_init_5 : decode cX7_init 5 = .ok (.bipush 40, 2) := by decide +kernel
theorem dX7_init_7 : decode cX7_init 7 = .ok (.anewarray 9, 3) := by decide +kernel
theorem dX7_init_10 : decode cX7_init 10 = .ok (.putfield 11, 3) := by decide +kernel
theorem dX7_init_13 : decode cX7_init 13 = .ok (.iconst 0, 1) := by decide +kernel
theorem dX7_init_14 : decode cX7_init 14 = .ok (.istore_n 1, 1) := by decide +kernel
theorem dX7_init_15 : decode cX7_init 15 = .ok (.iload_n 1, 1) := by decide +kernel
theorem dX7_init_16 : decode cX7_init 16 = .ok (.bipush 40, 2) := by decide +kernel
theorem dX7_init_18 : decode cX7_init 18 = .ok (.if_icmp .ge 22, 3) := by decide +kernel
theorem dX7_init_21 : decode cX7_init 21 = .ok (.aload_n 0, 1) := by decide +kernel
theorem dX7_init_22 : decode cX7_init 22 = .ok (.getfield 11, 3) := by decide +kernel
theorem dX7_init_25 : decode cX7_init 25 = .ok (.iload_n 1, 1) := by decide +kernel
theorem dX7_init_26 : decode cX7_init 26 = .ok (.new 9, 3) := by decide +kernel
theorem dX7_init_29 : decode cX7_init 29 = .ok (.dup, 1) := by decide +kernel
theorem dX7_init_30 : decode cX7_init 30 = .ok (.invokespecial 15, 3) := by decide +kernel
theorem dX7_init_33 : decode cX7_init 33 = .ok (.aastore, 1) := by decide +kernel
theorem dX7_init_34 : decode cX7_init 34 = .ok (.iinc 1 1, 3) := by decide +kernel
theorem dX7_init_37 : decode cX7_init 37 = .ok (.goto (-22), 3) := by decide +kernel
theorem dX7_init_40 : decode cX7_init 40 = .ok (.aload_n 0, 1) := by decide +kernel
theorem dX7_init_41 : decode cX7_init 41 = .ok (.bipush 40, 2) := by decide +kernel
theorem dX7_init_43 : decode cX7_init 43 = .ok (.newarray .int, 2) := by decide +kernel
theorem dX7_init_45 : decode cX7_init 45 = .ok (.putfield 16, 3) := by decide +kernel
theorem dX7_init_48 : decode cX7_init 48 = .ok (.aload_n 0, 1) := by decide +kernel
theorem dX7_init_49 : decode cX7_init 49 = .ok (.iconst 4, 1) := by decide +kernel
theorem dX7_init_50 : decode cX7_init 50 = .ok (.newarray .int, 2) := by decide +kernel
theorem dX7_init_52 : decode cX7_init 52 = .ok (.putfield 20, 3) := by decide +kernel
theorem dX7_init_55 : decode cX7_init 55 = .ok (.aload_n 0, 1) := by decide +kernel
theorem dX7_init_56 : decode cX7_init 56 = .ok (.iconst 4, 1) := by decide +kernel
theorem dX7_init_57 : decode cX7_init 57 = .ok (.anewarray 23, 3) := by decide +kernel
theorem dX7_init_60 : decode cX7_init 60 = .ok (.putfield 25, 3) := by decide +kernel
theorem dX7_init_63 : decode cX7_init 63 = .ok (.iconst 0, 1) := by decide +kernel
theorem dX7_init_64 : decode cX7_init 64 = .ok (.istore_n 1, 1) := by decide +kernel
theorem dX7_init_65 : decode cX7_init 65 = .ok (.iload_n 1, 1) := by decide +kernel
theorem dX7_init_66 : decode cX7_init 66 = .ok (.iconst 4, 1) := by decide +kernel
theorem dX7_init_67 : decode cX7_init 67 = .ok (.if_icmp .ge 40, 3) := by decide +kernel
theorem dX7_init_70 : decode cX7_init 70 = .ok (.aload_n 0, 1) := by decide +kernel
theorem dX7_init_71 : decode cX7_init 71 = .ok (.getfield 25, 3) := by decide +kernel
theorem dX7_init_74 : decode cX7_init 74 = .ok (.iload_n 1, 1) := by decide +kernel
theorem dX7_init_75 : decode cX7_init 75 = .ok (.new 23, 3) := by decide +kernel
theorem dX7_init_78 : decode cX7_init 78 = .ok (.dup, 1) := by decide +kernel
theorem dX7_init_79 : decode cX7_init 79 = .ok (.invokespecial 29, 3) := by decide +kernel
theorem dX7_init_82 : decode cX7_init 82 = .ok (.aastore, 1) := by decide +kernel
theorem dX7_init_83 : decode cX7_init 83 = .ok (.aload_n 0, 1) := by decide +kernel
theorem dX7_init_84 : decode cX7_init 84 = .ok (.getfield 25, 3) := by decide +kernel
theorem dX7_init_87 : decode cX7_init 87 = .ok (.iload_n 1, 1) := by decide +kernel
theorem dX7_init_88 : decode cX7_init 88 = .ok (.aaload, 1) := by decide +kernel
theorem dX7_init_89 : decode cX7_init 89 = .ok (.getfield 30, 3) := by decide +kernel
theorem dX7_init_92 : decode cX7_init 92 = .ok (.ldc2_w 36, 3) := by decide +kernel
theorem dX7_init_95 : decode cX7_init 95 = .ok (.ldc2_w 36, 3) := by decide +kernel
theorem dX7_init_98 : decode cX7_init 98 = .ok (.invokevirtual 38, 3) := by decide +kernel
theorem dX7_init_101 : decode cX7_init 101 = .ok (.iinc 1 1, 3) := by decide +kernel
theorem dX7_init_104 : decode cX7_init 104 = .ok (.goto (-39), 3) := by decide +kernel
theorem dX7_init_107 : decode cX7_init 107 = .ok (.aload_n 0, 1) := by decide +kernel
theorem dX7_init_108 : decode cX7_init 108 = .ok (.sipush 256, 3) := by decide +kernel
theorem dX7_init_111 : decode cX7_init 111 = .ok (.newarray .int, 2) := by decide +kernel
theorem dX7_init_113 : decode cX7_init 113 = .ok (.putfield 42, 3) := by decide +kernel
theorem dX7_init_116 : decode cX7_init 116 = .ok (.aload_n 0, 1) := by decide +kernel
theorem dX7_init_117 : decode cX7_init 117 = .ok (.sipush 256, 3) := by decide +kernel
theorem dX7_init_120 : decode cX7_init 120 = .ok (.newarray .int, 2) := by decide +kernel
theorem dX7_init_122 : decode cX7_init 122 = .ok (.putfield 45, 3) := by decide +kernel
theorem dX7_init_125 : decode cX7_init 125 = .ok (.aload_n 0, 1) := by decide +kernel
theorem dX7_init_126 : decode cX7_init 126 = .ok (.new 23, 3) := by decide +kernel
theorem dX7_init_129 : decode cX7_init 129 = .ok (.dup, 1) := by decide +kernel
theorem dX7_init_130 : decode cX7_init 130 = .ok (.invokespecial 29, 3) := by decide +kernel
theorem dX7_init_133 : decode cX7_init 133 = .ok (.putfield 48, 3) := by decide +kernel
theorem dX7_init_136 : decode cX7_init 136 = .ok (.aload_n 0, 1) := by decide +kernel
theorem dX7_init_137 : decode cX7_init 137 = .ok (.new 23, 3) := by decide +kernel
theorem dX7_init_140 : decode cX7_init 140 = .ok (.dup, 1) := by decide +kernel
theorem dX7_init_141 : decode cX7_init 141 = .ok (.invokespecial 29, 3) := by decide +kernel
theorem dX7_init_144 : decode cX7_init 144 = .ok (.putfield 52, 3) := by decide +kernel
theorem dX7_init_147 : decode cX7_init 147 = .ok (.aload_n 0, 1) := by decide +kernel
theorem dX7_init_148 : decode cX7_init 148 = .ok (.new 23, 3) := by decide +kernel
theorem dX7_init_151 : decode cX7_init 151 = .ok (.dup, 1) := by decide +kernel
theorem dX7_init_152 : decode cX7_init 152 = .ok (.invokespecial 29, 3) := by decide +kernel
theorem dX7_init_155 : decode cX7_init 155 = .ok (.putfield 55, 3) := by decide +kernel
theorem dX7_init_158 : decode cX7_init 158 = .ok (.aload_n 0, 1) := by decide +kernel
theorem dX7_init_159 : decode cX7_init 159 = .ok (.new 23, 3) := by decide +kernel
theorem dX7_init_162 : decode cX7_init 162 = .ok (.dup, 1) := by decide +kernel
theorem dX7_init_163 : decode cX7_init 163 = .ok (.invokespecial 29, 3) := by decide +kernel
theorem dX7_init_166 : decode cX7_init 166 = .ok (.putfield 58, 3) := by decide +kernel
theorem dX7_init_169 : decode cX7_init 169 = .ok (.aload_n 0, 1) := by decide +kernel
theorem dX7_init_170 : decode cX7_init 170 = .ok (.new 34, 3) := by decide +kernel
theorem dX7_init_173 : decode cX7_init 173 = .ok (.dup, 1) := by decide +kernel
theorem dX7_init_174 : decode cX7_init 174 = .ok (.invokespecial 61, 3) := by decide +kernel
theorem dX7_init_177 : decode cX7_init 177 = .ok (.putfield 62, 3) := by decide +kernel
theorem dX7_init_180 : decode cX7_init 180 = .ok (.aload_n 0, 1) := by decide +kernel
theorem dX7_init_181 : decode cX7_init 181 = .ok (.new 34, 3) := by decide +kernel
theorem dX7_init_184 : decode cX7_init 184 = .ok (.dup, 1) := by decide +kernel
theorem dX7_init_185 : decode cX7_init 185 = .ok (.invokespecial 61, 3) := by decide +kernel
theorem dX7_init_188 : decode cX7_init 188 = .ok (.putfield 65, 3) := by decide +kernel
theorem dX7_init_191 : decode cX7_init 191 = .ok (.aload_n 0, 1) := by decide +kernel
theorem dX7_init_192 : decode cX7_init 192 = .ok (.new 34, 3) := by decide +kernel
theorem dX7_init_195 : decode cX7_init 195 = .ok (.dup, 1) := by decide +kernel
theorem dX7_init_196 : decode cX7_init 196 = .ok (.invokespecial 61, 3) := by decide +kernel
theorem dX7_init_199 : decode cX7_init 199 = .ok (.putfield 68, 3) := by decide +kernel
theorem dX7_init_202 : decode cX7_init 202 = .ok (.aload_n 0, 1) := by decide +kernel
theorem dX7_init_203 : decode cX7_init 203 = .ok (.new 34, 3) := by decide +kernel
theorem dX7_init_206 : decode cX7_init 206 = .ok (.dup, 1) := by decide +kernel
theorem dX7_init_207 : decode cX7_init 207 = .ok (.invokespecial 61, 3) := by decide +kernel
theorem dX7_init_210 : decode cX7_init 210 = .ok (.putfield 71, 3) := by decide +kernel
theorem dX7_init_213 : decode cX7_init 213 = .ok (.aload_n 0, 1) := by decide +kernel
theorem dX7_init_214 : decode cX7_init 214 = .ok (.new 34, 3) := by decide +kernel
theorem dX7_init_217 : decode cX7_init 217 = .ok (.dup, 1) := by decide +kernel
theorem dX7_init_218 : decode cX7_init 218 = .ok (.invokespecial 61, 3) := by decide +kernel
theorem dX7_init_221 : decode cX7_init 221 = .ok (.putfield 74, 3) := by decide +kernel
theorem dX7_init_224 : decode cX7_init 224 = .ok (.return_, 1) := by decide +kernel
theorem dX7_isRead_0 : decode cX7_isRead 0 = .ok (.aload_n 0, 1) := by decide +kernel
theorem dX7_isRead_1 : decode cX7_isRead 1 = .ok (.iconst 0, 1) := by decide +kernel
theorem dX7_isRead_2 : decode cX7_isRead 2 = .ok (.putfield 77, 3) := by decide +kernel
theorem dX7_isRead_5 : decode cX7_isRead 5 = .ok (.aload_n 0, 1) := by decide +kernel
theorem dX7_isRead_6 : decode cX7_isRead 6 = .ok (.iconst 0, 1) := by decide +kernel
theorem dX7_isRead_7 : decode cX7_isRead 7 = .ok (.putfield 81, 3) := by decide +kernel
theorem dX7_isRead_10 : decode cX7_isRead 10 = .ok (.aload_n 0, 1) := by decide +kernel
theorem dX7_isRead_11 : decode cX7_isRead 11 = .ok (.iconst 0, 1) := by decide +kernel
theorem dX7_isRead_12 : decode cX7_isRead 12 = .ok (.putfield 84, 3) := by decide +kernel
theorem dX7_isRead_15 : decode cX7_isRead 15 = .ok (.aload_n 0, 1) := by decide +kernel
theorem dX7_isRead_16 : decode cX7_isRead 16 = .ok (.iconst 0, 1) := by decide +kernel
theorem dX7_isRead_17 : decode cX7_isRead 17 = .ok (.putfield 87, 3) := by decide +kernel
theorem dX7_isRead_20 : decode cX7_isRead 20 = .ok (.iconst 0, 1) := by decide +kernel
theorem dX7_isRead_21 : decode cX7_isRead 21 = .ok (.istore_n 2, 1) := by decide +kernel
theorem dX7_isRead_22 : decode cX7_isRead 22 = .ok (.iload_n 2, 1) := by decide +kernel
theorem dX7_isRead_23 : decode cX7_isRead 23 = .ok (.iconst 4, 1) := by decide +kernel
theorem dX7_isRead_24 : decode cX7_isRead 24 = .ok (.if_icmp .ge 15, 3) := by decide +kernel
theorem dX7_isRead_27 : decode cX7_isRead 27 = .ok (.aload_n 0, 1) := by decide +kernel
theorem dX7_isRead_28 : decode cX7_isRead 28 = .ok (.iload_n 2, 1) := by decide +kernel
theorem dX7_isRead_29 : decode cX7_isRead 29 = .ok (.iconst 0, 1) := by decide +kernel
theorem dX7_isRead_30 : decode cX7_isRead 30 = .ok (.invokevirtual 91, 3) := by decide +kernel
theorem dX7_isRead_33 : decode cX7_isRead 33 = .ok (.iinc 2 1, 3) := by decide +kernel
theorem dX7_isRead_36 : decode cX7_isRead 36 = .ok (.goto (-14), 3) := by decide +kernel
theorem dX7_isRead_39 : decode cX7_isRead 39 = .ok (.aload_n 1, 1) := by decide +kernel
theorem dX7_isRead_40 : decode cX7_isRead 40 = .ok (.ldc 95, 2) := by decide +kernel
theorem dX7_isRead_42 : decode cX7_isRead 42 = .ok (.invokevirtual 97, 3) := by decide +kernel
theorem dX7_isRead_45 : decode cX7_isRead 45 = .ok (.istore_n 2, 1) := by decide +kernel
theorem dX7_isRead_46 : decode cX7_isRead 46 = .ok (.iconst 0, 1) := by decide +kernel
theorem dX7_isRead_47 : decode cX7_isRead 47 = .ok (.istore_n 3, 1) := by decide +kernel
theorem dX7_isRead_48 : decode cX7_isRead 48 = .ok (.iload_n 3, 1) := by decide +kernel
theorem dX7_isRead_49 : decode cX7_isRead 49 = .ok (.sipush 4000, 3) := by decide +kernel
theorem dX7_isRead_52 : decode cX7_isRead 52 = .ok (.if_icmp .ge 37, 3) := by decide +kernel
theorem dX7_isRead_55 : decode cX7_isRead 55 = .ok (.iload_n 2, 1) := by decide +kernel
theorem dX7_isRead_56 : decode cX7_isRead 56 = .ok (.ifCond .eq 33, 3) := by decide +kernel
theorem dX7_isRead_59 : decode cX7_isRead 59 = .ok (.aload_n 1, 1) := by decide +kernel
theorem dX7_isRead_60 : decode cX7_isRead 60 = .ok (.ldc 95, 2) := by decide +kernel
theorem dX7_isRead_62 : decode cX7_isRead 62 = .ok (.invokevirtual 103, 3) := by decide +kernel
theorem dX7_isRead_65 : decode cX7_isRead 65 = .ok (.ifCond .eq 16, 3) := by decide +kernel
theorem dX7_isRead_68 : decode cX7_isRead 68 = .ok (.aload_n 0, 1) := by decide +kernel
theorem dX7_isRead_69 : decode cX7_isRead 69 = .ok (.aload_n 1, 1) := by decide +kernel
theorem dX7_isRead_70 : decode cX7_isRead 70 = .ok (.iload_n 3, 1) := by decide +kernel
theorem dX7_isRead_71 : decode cX7_isRead 71 = .ok (.invokevirtual 106, 3) := by decide +kernel
theorem dX7_isRead_74 : decode cX7_isRead 74 = .ok (.ifCond .eq 7, 3) := by decide +kernel
theorem dX7_isRead_77 : decode cX7_isRead 77 = .ok (.iconst 1, 1) := by decide +kernel
theorem dX7_isRead_78 : decode cX7_isRead 78 = .ok (.goto 4, 3) := by decide +kernel
theorem dX7_isRead_81 : decode cX7_isRead 81 = .ok (.iconst 0, 1) := by decide +kernel
theorem dX7_isRead_82 : decode cX7_isRead 82 = .ok (.istore_n 2, 1) := by decide +kernel
theorem dX7_isRead_83 : decode cX7_isRead 83 = .ok (.iinc 3 1, 3) := by decide +kernel
theorem dX7_isRead_86 : decode cX7_isRead 86 = .ok (.goto (-38), 3) := by decide +kernel
theorem dX7_isRead_89 : decode cX7_isRead 89 = .ok (.aload_n 1, 1) := by decide +kernel
theorem dX7_isRead_90 : decode cX7_isRead 90 = .ok (.getfield 110, 3) := by decide +kernel
theorem dX7_isRead_93 : decode cX7_isRead 93 = .ok (.ifCond .ne 22, 3) := by decide +kernel
theorem dX7_isRead_96 : decode cX7_isRead 96 = .ok (.aload_n 0, 1) := by decide +kernel
theorem dX7_isRead_97 : decode cX7_isRead 97 = .ok (.invokevirtual 113, 3) := by decide +kernel
theorem dX7_isRead_100 : decode cX7_isRead 100 = .ok (.istore_n 3, 1) := by decide +kernel
theorem dX7_isRead_101 : decode cX7_isRead 101 = .ok (.iload_n 3, 1) := by decide +kernel
theorem dX7_isRead_102 : decode cX7_isRead 102 = .ok (.ifCond .lt 13, 3) := by decide +kernel
theorem dX7_isRead_105 : decode cX7_isRead 105 = .ok (.aload_n 1, 1) := by decide +kernel
theorem dX7_isRead_106 : decode cX7_isRead 106 = .ok (.iconst 4, 1) := by decide +kernel
theorem dX7_isRead_107 : decode cX7_isRead 107 = .ok (.aload_n 1, 1) := by decide +kernel
theorem dX7_isRead_108 : decode cX7_isRead 108 = .ok (.iload_n 3, 1) := by decide +kernel
theorem dX7_isRead_109 : decode cX7_isRead 109 = .ok (.invokestatic 117, 3) := by decide +kernel
theorem dX7_isRead_112 : decode cX7_isRead 112 = .ok (.invokevirtual 121, 3) := by decide +kernel
theorem dX7_isRead_115 : decode cX7_isRead 115 = .ok (.aload_n 1, 1) := by decide +kernel
theorem dX7_isRead_116 : decode cX7_isRead 116 = .ok (.getfield 110, 3) := by decide +kernel
theorem dX7_isRead_119 : decode cX7_isRead 119 = .ok (.ifCond .ne 7, 3) := by decide +kernel
theorem dX7_isRead_122 : decode cX7_isRead 122 = .ok (.iconst 1, 1) := by decide +kernel
theorem dX7_isRead_123 : decode cX7_isRead 123 = .ok (.goto 4, 3) := by decide +kernel
theorem dX7_isRead_126 : decode cX7_isRead 126 = .ok (.iconst 0, 1) := by decide +kernel
theorem dX7_isRead_127 : decode cX7_isRead 127 = .ok (.ireturn, 1) := by decide +kernel
theorem dX7_isTaken_0 : decode cX7_isTaken 0 = .ok (.aload_n 0, 1) := by decide +kernel
theorem dX7_isTaken_1 : decode cX7_isTaken 1 = .ok (.getfield 81, 3) := by decide +kernel
theorem dX7_isTaken_4 : decode cX7_isTaken 4 = .ok (.istore_n 3, 1) := by decide +kernel
theorem dX7_isTaken_5 : decode cX7_isTaken 5 = .ok (.iconst 0, 1) := by decide +kernel
theorem dX7_isTaken_6 : decode cX7_isTaken 6 = .ok (.istore 4, 2) := by decide +kernel
theorem dX7_isTaken_8 : decode cX7_isTaken 8 = .ok (.iload 4, 2) := by decide +kernel
theorem dX7_isTaken_10 : decode cX7_isTaken 10 = .ok (.aload_n 1, 1) := by decide +kernel
theorem dX7_isTaken_11 : decode cX7_isTaken 11 = .ok (.getfield 124, 3) := by decide +kernel
theorem dX7_isTaken_14 : decode cX7_isTaken 14 = .ok (.if_icmp .ge 17, 3) := by decide +kernel
theorem dX7_isTaken_17 : decode cX7_isTaken 17 = .ok (.aload_n 0, 1) := by decide +kernel
theorem dX7_isTaken_18 : decode cX7_isTaken 18 = .ok (.aload_n 1, 1) := by decide +kernel
theorem dX7_isTaken_19 : decode cX7_isTaken 19 = .ok (.iload 4, 2) := by decide +kernel
theorem dX7_isTaken_21 : decode cX7_isTaken 21 = .ok (.iload_n 2, 1) := by decide +kernel
theorem dX7_isTaken_22 : decode cX7_isTaken 22 = .ok (.invokevirtual 127, 3) := by decide +kernel
theorem dX7_isTaken_25 : decode cX7_isTaken 25 = .ok (.iinc 4 1, 3) := by decide +kernel
theorem dX7_isTaken_28 : decode cX7_isTaken 28 = .ok (.goto (-20), 3) := by decide +kernel
theorem dX7_isTaken_31 : decode cX7_isTaken 31 = .ok (.aload_n 1, 1) := by decide +kernel
theorem dX7_isTaken_32 : decode cX7_isTaken 32 = .ok (.getfield 110, 3) := by decide +kernel
theorem dX7_isTaken_35 : decode cX7_isTaken 35 = .ok (.ifCond .ne 9, 3) := by decide +kernel
theorem dX7_isTaken_38 : decode cX7_isTaken 38 = .ok (.iload_n 2, 1) := by decide +kernel
theorem dX7_isTaken_39 : decode cX7_isTaken 39 = .ok (.bipush 40, 2) := by decide +kernel
theorem dX7_isTaken_41 : decode cX7_isTaken 41 = .ok (.if_icmp .lt 5, 3) := by decide +kernel
theorem dX7_isTaken_44 : decode cX7_isTaken 44 = .ok (.iconst 0, 1) := by decide +kernel
theorem dX7_isTaken_45 : decode cX7_isTaken 45 = .ok (.ireturn, 1) := by decide +kernel
theorem dX7_isTaken_46 : decode cX7_isTaken 46 = .ok (.aload_n 0, 1) := by decide +kernel
theorem dX7_isTaken_47 : decode cX7_isTaken 47 = .ok (.getfield 11, 3) := by decide +kernel
theorem dX7_isTaken_50 : decode cX7_isTaken 50 = .ok (.iload_n 2, 1) := by decide +kernel
theorem dX7_isTaken_51 : decode cX7_isTaken 51 = .ok (.aaload, 1) := by decide +kernel
theorem dX7_isTaken_52 : decode cX7_isTaken 52 = .ok (.aload_n 1, 1) := by decide +kernel
theorem dX7_isTaken_53 : decode cX7_isTaken 53 = .ok (.iload_n 3, 1) := by decide +kernel
theorem dX7_isTaken_54 : decode cX7_isTaken 54 = .ok (.invokevirtual 131, 3) := by decide +kernel
theorem dX7_isTaken_57 : decode cX7_isTaken 57 = .ok (.aload_n 0, 1) := by decide +kernel
theorem dX7_isTaken_58 : decode cX7_isTaken 58 = .ok (.iload_n 2, 1) := by decide +kernel
theorem dX7_isTaken_59 : decode cX7_isTaken 59 = .ok (.iconst 1, 1) := by decide +kernel
theorem dX7_isTaken_60 : decode cX7_isTaken 60 = .ok (.iadd, 1) := by decide +kernel
theorem dX7_isTaken_61 : decode cX7_isTaken 61 = .ok (.putfield 77, 3) := by decide +kernel
theorem dX7_isTaken_64 : decode cX7_isTaken 64 = .ok (.iconst 1, 1) := by decide +kernel
theorem dX7_isTaken_65 : decode cX7_isTaken 65 = .ok (.ireturn, 1) := by decide +kernel
theorem dX7_checkPart_0 : decode cX7_checkPart 0 = .ok (.aload_n 1, 1) := by decide +kernel
theorem dX7_checkPart_1 : decode cX7_checkPart 1 = .ok (.getfield 135, 3) := by decide +kernel
theorem dX7_checkPart_4 : decode cX7_checkPart 4 = .ok (.iload_n 2, 1) := by decide +kernel
theorem dX7_checkPart_5 : decode cX7_checkPart 5 = .ok (.iaload, 1) := by decide +kernel
theorem dX7_checkPart_6 : decode cX7_checkPart 6 = .ok (.istore 4, 2) := by decide +kernel
theorem dX7_checkPart_8 : decode cX7_checkPart 8 = .ok (.aload_n 1, 1) := by decide +kernel
theorem dX7_checkPart_9 : decode cX7_checkPart 9 = .ok (.getfield 138, 3) := by decide +kernel
theorem dX7_checkPart_12 : decode cX7_checkPart 12 = .ok (.iload_n 2, 1) := by decide +kernel
theorem dX7_checkPart_13 : decode cX7_checkPart 13 = .ok (.iaload, 1) := by decide +kernel
theorem dX7_checkPart_14 : decode cX7_checkPart 14 = .ok (.lookupswitch 153 #[(67, 34), (80, 75), (83, 98)], 34) := by decide +kernel
theorem dX7_checkPart_48 : decode cX7_checkPart 48 = .ok (.aload_n 1, 1) := by decide +kernel
theorem dX7_checkPart_49 : decode cX7_checkPart 49 = .ok (.aload_n 1, 1) := by decide +kernel
theorem dX7_checkPart_50 : decode cX7_checkPart 50 = .ok (.getfield 141, 3) := by decide +kernel
theorem dX7_checkPart_53 : decode cX7_checkPart 53 = .ok (.iload_n 2, 1) := by decide +kernel
theorem dX7_checkPart_54 : decode cX7_checkPart 54 = .ok (.laload, 1) := by decide +kernel
theorem dX7_checkPart_55 : decode cX7_checkPart 55 = .ok (.invokevirtual 145, 3) := by decide +kernel
theorem dX7_checkPart_58 : decode cX7_checkPart 58 = .ok (.iload_n 3, 1) := by decide +kernel
theorem dX7_checkPart_59 : decode cX7_checkPart 59 = .ok (.if_icmp .ge 13, 3) := by decide +kernel
theorem dX7_checkPart_62 : decode cX7_checkPart 62 = .ok (.aload_n 1, 1) := by decide +kernel
theorem dX7_checkPart_63 : decode cX7_checkPart 63 = .ok (.iconst 2, 1) := by decide +kernel
theorem dX7_checkPart_64 : decode cX7_checkPart 64 = .ok (.iload 4, 2) := by decide +kernel
theorem dX7_checkPart_66 : decode cX7_checkPart 66 = .ok (.invokevirtual 121, 3) := by decide +kernel
theorem dX7_checkPart_69 : decode cX7_checkPart 69 = .ok (.goto 113, 3) := by decide +kernel
theorem dX7_checkPart_72 : decode cX7_checkPart 72 = .ok (.iload_n 3, 1) := by decide +kernel
theorem dX7_checkPart_73 : decode cX7_checkPart 73 = .ok (.bipush 40, 2) := by decide +kernel
theorem dX7_checkPart_75 : decode cX7_checkPart 75 = .ok (.if_icmp .lt 107, 3) := by decide +kernel
theorem dX7_checkPart_78 : decode cX7_checkPart 78 = .ok (.aload_n 1, 1) := by decide +kernel
theorem dX7_checkPart_79 : decode cX7_checkPart 79 = .ok (.bipush 6, 2) := by decide +kernel
theorem dX7_checkPart_81 : decode cX7_checkPart 81 = .ok (.iload 4, 2) := by decide +kernel
theorem dX7_checkPart_83 : decode cX7_checkPart 83 = .ok (.invokevirtual 121, 3) := by decide +kernel
theorem dX7_checkPart_86 : decode cX7_checkPart 86 = .ok (.goto 96, 3) := by decide +kernel
theorem dX7_checkPart_89 : decode cX7_checkPart 89 = .ok (.aload_n 1, 1) := by decide +kernel
theorem dX7_checkPart_90 : decode cX7_checkPart 90 = .ok (.aload_n 1, 1) := by decide +kernel
theorem dX7_checkPart_91 : decode cX7_checkPart 91 = .ok (.getfield 141, 3) := by decide +kernel
theorem dX7_checkPart_94 : decode cX7_checkPart 94 = .ok (.iload_n 2, 1) := by decide +kernel
theorem dX7_checkPart_95 : decode cX7_checkPart 95 = .ok (.laload, 1) := by decide +kernel
theorem dX7_checkPart_96 : decode cX7_checkPart 96 = .ok (.invokevirtual 145, 3) := by decide +kernel
theorem dX7_checkPart_99 : decode cX7_checkPart 99 = .ok (.ifCond .ge 83, 3) := by decide +kernel
theorem dX7_checkPart_102 : decode cX7_checkPart 102 = .ok (.aload_n 1, 1) := by decide +kernel
theorem dX7_checkPart_103 : decode cX7_checkPart 103 = .ok (.iconst 3, 1) := by decide +kernel
theorem dX7_checkPart_104 : decode cX7_checkPart 104 = .ok (.iload 4, 2) := by decide +kernel
theorem dX7_checkPart_106 : decode cX7_checkPart 106 = .ok (.invokevirtual 121, 3) := by decide +kernel
theorem dX7_checkPart_109 : decode cX7_checkPart 109 = .ok (.goto 73, 3) := by decide +kernel
theorem dX7_checkPart_112 : decode cX7_checkPart 112 = .ok (.aload_n 1, 1) := by decide +kernel
theorem dX7_checkPart_113 : decode cX7_checkPart 113 = .ok (.getfield 149, 3) := by decide +kernel
theorem dX7_checkPart_116 : decode cX7_checkPart 116 = .ok (.iload_n 2, 1) := by decide +kernel
theorem dX7_checkPart_117 : decode cX7_checkPart 117 = .ok (.iaload, 1) := by decide +kernel
theorem dX7_checkPart_118 : decode cX7_checkPart 118 = .ok (.bipush 63, 2) := by decide +kernel
theorem dX7_checkPart_120 : decode cX7_checkPart 120 = .ok (.if_icmp .ne 23, 3) := by decide +kernel
theorem dX7_checkPart_123 : decode cX7_checkPart 123 = .ok (.aload_n 0, 1) := by decide +kernel
theorem dX7_checkPart_124 : decode cX7_checkPart 124 = .ok (.getfield 81, 3) := by decide +kernel
theorem dX7_checkPart_127 : decode cX7_checkPart 127 = .ok (.bipush 8, 2) := by decide +kernel
theorem dX7_checkPart_129 : decode cX7_checkPart 129 = .ok (.if_icmp .lt 14, 3) := by decide +kernel
theorem dX7_checkPart_132 : decode cX7_checkPart 132 = .ok (.aload_n 1, 1) := by decide +kernel
theorem dX7_checkPart_133 : decode cX7_checkPart 133 = .ok (.bipush 6, 2) := by decide +kernel
theorem dX7_checkPart_135 : decode cX7_checkPart 135 = .ok (.iload 4, 2) := by decide +kernel
theorem dX7_checkPart_137 : decode cX7_checkPart 137 = .ok (.invokevirtual 121, 3) := by decide +kernel
theorem dX7_checkPart_140 : decode cX7_checkPart 140 = .ok (.goto 42, 3) := by decide +kernel
theorem dX7_checkPart_143 : decode cX7_checkPart 143 = .ok (.aload_n 1, 1) := by decide +kernel
theorem dX7_checkPart_144 : decode cX7_checkPart 144 = .ok (.getfield 149, 3) := by decide +kernel
theorem dX7_checkPart_147 : decode cX7_checkPart 147 = .ok (.iload_n 2, 1) := by decide +kernel
theorem dX7_checkPart_148 : decode cX7_checkPart 148 = .ok (.iaload, 1) := by decide +kernel
theorem dX7_checkPart_149 : decode cX7_checkPart 149 = .ok (.bipush 63, 2) := by decide +kernel
theorem dX7_checkPart_151 : decode cX7_checkPart 151 = .ok (.if_icmp .ne 31, 3) := by decide +kernel
theorem dX7_checkPart_154 : decode cX7_checkPart 154 = .ok (.aload_n 0, 1) := by decide +kernel
theorem dX7_checkPart_155 : decode cX7_checkPart 155 = .ok (.dup, 1) := by decide +kernel
theorem dX7_checkPart_156 : decode cX7_checkPart 156 = .ok (.getfield 81, 3) := by decide +kernel
theorem dX7_checkPart_159 : decode cX7_checkPart 159 = .ok (.iconst 1, 1) := by decide +kernel
theorem dX7_checkPart_160 : decode cX7_checkPart 160 = .ok (.iadd, 1) := by decide +kernel
theorem dX7_checkPart_161 : decode cX7_checkPart 161 = .ok (.putfield 81, 3) := by decide +kernel
theorem dX7_checkPart_164 : decode cX7_checkPart 164 = .ok (.goto 18, 3) := by decide +kernel
theorem dX7_checkPart_167 : decode cX7_checkPart 167 = .ok (.aload_n 1, 1) := by decide +kernel
theorem dX7_checkPart_168 : decode cX7_checkPart 168 = .ok (.iload_n 2, 1) := by decide +kernel
theorem dX7_checkPart_169 : decode cX7_checkPart 169 = .ok (.invokevirtual 152, 3) := by decide +kernel
theorem dX7_checkPart_172 : decode cX7_checkPart 172 = .ok (.ifCond .ne 10, 3) := by decide +kernel
theorem dX7_checkPart_175 : decode cX7_checkPart 175 = .ok (.aload_n 1, 1) := by decide +kernel
theorem dX7_checkPart_176 : decode cX7_checkPart 176 = .ok (.iconst 5, 1) := by decide +kernel
theorem dX7_checkPart_177 : decode cX7_checkPart 177 = .ok (.iload 4, 2) := by decide +kernel
theorem dX7_checkPart_179 : decode cX7_checkPart 179 = .ok (.invokevirtual 121, 3) := by decide +kernel
theorem dX7_checkPart_182 : decode cX7_checkPart 182 = .ok (.return_, 1) := by decide +kernel
theorem dX7_arrange_0 : decode cX7_arrange 0 = .ok (.lconst 0, 1) := by decide +kernel
theorem dX7_arrange_1 : decode cX7_arrange 1 = .ok (.lstore_n 1, 1) := by decide +kernel
theorem dX7_arrange_2 : decode cX7_arrange 2 = .ok (.iconst 0, 1) := by decide +kernel
theorem dX7_arrange_3 : decode cX7_arrange 3 = .ok (.istore_n 3, 1) := by decide +kernel
theorem dX7_arrange_4 : decode cX7_arrange 4 = .ok (.iconst 0, 1) := by decide +kernel
theorem dX7_arrange_5 : decode cX7_arrange 5 = .ok (.istore 4, 2) := by decide +kernel
theorem dX7_arrange_7 : decode cX7_arrange 7 = .ok (.iload 4, 2) := by decide +kernel
theorem dX7_arrange_9 : decode cX7_arrange 9 = .ok (.aload_n 0, 1) := by decide +kernel
theorem dX7_arrange_10 : decode cX7_arrange 10 = .ok (.getfield 77, 3) := by decide +kernel
theorem dX7_arrange_13 : decode cX7_arrange 13 = .ok (.if_icmp .ge 89, 3) := by decide +kernel
theorem dX7_arrange_16 : decode cX7_arrange 16 = .ok (.iload_n 3, 1) := by decide +kernel
theorem dX7_arrange_17 : decode cX7_arrange 17 = .ok (.aload_n 0, 1) := by decide +kernel
theorem dX7_arrange_18 : decode cX7_arrange 18 = .ok (.getfield 77, 3) := by decide +kernel
theorem dX7_arrange_21 : decode cX7_arrange 21 = .ok (.if_icmp .ge 81, 3) := by decide +kernel
theorem dX7_arrange_24 : decode cX7_arrange 24 = .ok (.iconst 0, 1) := by decide +kernel
theorem dX7_arrange_25 : decode cX7_arrange 25 = .ok (.istore 5, 2) := by decide +kernel
theorem dX7_arrange_27 : decode cX7_arrange 27 = .ok (.iload 5, 2) := by decide +kernel
theorem dX7_arrange_29 : decode cX7_arrange 29 = .ok (.aload_n 0, 1) := by decide +kernel
theorem dX7_arrange_30 : decode cX7_arrange 30 = .ok (.getfield 77, 3) := by decide +kernel
theorem dX7_arrange_33 : decode cX7_arrange 33 = .ok (.if_icmp .ge 63, 3) := by decide +kernel
theorem dX7_arrange_36 : decode cX7_arrange 36 = .ok (.lload_n 1, 1) := by decide +kernel
theorem dX7_arrange_37 : decode cX7_arrange 37 = .ok (.iload 5, 2) := by decide +kernel
theorem dX7_arrange_39 : decode cX7_arrange 39 = .ok (.lshr, 1) := by decide +kernel
theorem dX7_arrange_40 : decode cX7_arrange 40 = .ok (.lconst 1, 1) := by decide +kernel
theorem dX7_arrange_41 : decode cX7_arrange 41 = .ok (.land, 1) := by decide +kernel
theorem dX7_arrange_42 : decode cX7_arrange 42 = .ok (.lconst 0, 1) := by decide +kernel
theorem dX7_arrange_43 : decode cX7_arrange 43 = .ok (.lcmp, 1) := by decide +kernel
theorem dX7_arrange_44 : decode cX7_arrange 44 = .ok (.ifCond .ne 46, 3) := by decide +kernel
theorem dX7_arrange_47 : decode cX7_arrange 47 = .ok (.aload_n 0, 1) := by decide +kernel
theorem dX7_arrange_48 : decode cX7_arrange 48 = .ok (.getfield 11, 3) := by decide +kernel
theorem dX7_arrange_51 : decode cX7_arrange 51 = .ok (.iload 5, 2) := by decide +kernel
theorem dX7_arrange_53 : decode cX7_arrange 53 = .ok (.aaload, 1) := by decide +kernel
theorem dX7_arrange_54 : decode cX7_arrange 54 = .ok (.lload_n 1, 1) := by decide +kernel
theorem dX7_arrange_55 : decode cX7_arrange 55 = .ok (.invokestatic 156, 3) := by decide +kernel
theorem dX7_arrange_58 : decode cX7_arrange 58 = .ok (.ifCond .eq 32, 3) := by decide +kernel
theorem dX7_arrange_61 : decode cX7_arrange 61 = .ok (.lload_n 1, 1) := by decide +kernel
theorem dX7_arrange_62 : decode cX7_arrange 62 = .ok (.lconst 1, 1) := by decide +kernel
theorem dX7_arrange_63 : decode cX7_arrange 63 = .ok (.iload 5, 2) := by decide +kernel
theorem dX7_arrange_65 : decode cX7_arrange 65 = .ok (.lshl, 1) := by decide +kernel
theorem dX7_arrange_66 : decode cX7_arrange 66 = .ok (.lor, 1) := by decide +kernel
theorem dX7_arrange_67 : decode cX7_arrange 67 = .ok (.lstore_n 1, 1) := by decide +kernel
theorem dX7_arrange_68 : decode cX7_arrange 68 = .ok (.aload_n 0, 1) := by decide +kernel
theorem dX7_arrange_69 : decode cX7_arrange 69 = .ok (.getfield 16, 3) := by decide +kernel
theorem dX7_arrange_72 : decode cX7_arrange 72 = .ok (.iload_n 3, 1) := by decide +kernel
theorem dX7_arrange_73 : decode cX7_arrange 73 = .ok (.iload 5, 2) := by decide +kernel
theorem dX7_arrange_75 : decode cX7_arrange 75 = .ok (.iastore, 1) := by decide +kernel
theorem dX7_arrange_76 : decode cX7_arrange 76 = .ok (.iinc 3 1, 3) := by decide +kernel
theorem dX7_arrange_79 : decode cX7_arrange 79 = .ok (.aload_n 0, 1) := by decide +kernel
theorem dX7_arrange_80 : decode cX7_arrange 80 = .ok (.aload_n 0, 1) := by decide +kernel
theorem dX7_arrange_81 : decode cX7_arrange 81 = .ok (.getfield 11, 3) := by decide +kernel
theorem dX7_arrange_84 : decode cX7_arrange 84 = .ok (.iload 5, 2) := by decide +kernel
theorem dX7_arrange_86 : decode cX7_arrange 86 = .ok (.aaload, 1) := by decide +kernel
theorem dX7_arrange_87 : decode cX7_arrange 87 = .ok (.invokevirtual 160, 3) := by decide +kernel
theorem dX7_arrange_90 : decode cX7_arrange 90 = .ok (.iinc 5 1, 3) := by decide +kernel
theorem dX7_arrange_93 : decode cX7_arrange 93 = .ok (.goto (-66), 3) := by decide +kernel
theorem dX7_arrange_96 : decode cX7_arrange 96 = .ok (.iinc 4 1, 3) := by decide +kernel
theorem dX7_arrange_99 : decode cX7_arrange 99 = .ok (.goto (-92), 3) := by decide +kernel
theorem dX7_arrange_102 : decode cX7_arrange 102 = .ok (.iconst 0, 1) := by decide +kernel
theorem dX7_arrange_103 : decode cX7_arrange 103 = .ok (.istore 4, 2) := by decide +kernel
theorem dX7_arrange_105 : decode cX7_arrange 105 = .ok (.iload 4, 2) := by decide +kernel
theorem dX7_arrange_107 : decode cX7_arrange 107 = .ok (.aload_n 0, 1) := by decide +kernel
theorem dX7_arrange_108 : decode cX7_arrange 108 = .ok (.getfield 77, 3) := by decide +kernel
theorem dX7_arrange_111 : decode cX7_arrange 111 = .ok (.if_icmp .ge 23, 3) := by decide +kernel
theorem dX7_arrange_114 : decode cX7_arrange 114 = .ok (.lload_n 1, 1) := by decide +kernel
theorem dX7_arrange_115 : decode cX7_arrange 115 = .ok (.iload 4, 2) := by decide +kernel
theorem dX7_arrange_117 : decode cX7_arrange 117 = .ok (.lshr, 1) := by decide +kernel
theorem dX7_arrange_118 : decode cX7_arrange 118 = .ok (.lconst 1, 1) := by decide +kernel
theorem dX7_arrange_119 : decode cX7_arrange 119 = .ok (.land, 1) := by decide +kernel
theorem dX7_arrange_120 : decode cX7_arrange 120 = .ok (.lconst 0, 1) := by decide +kernel
theorem dX7_arrange_121 : decode cX7_arrange 121 = .ok (.lcmp, 1) := by decide +kernel
theorem dX7_arrange_122 : decode cX7_arrange 122 = .ok (.ifCond .ne 6, 3) := by decide +kernel
theorem dX7_arrange_125 : decode cX7_arrange 125 = .ok (.iload 4, 2) := by decide +kernel
theorem dX7_arrange_127 : decode cX7_arrange 127 = .ok (.ireturn, 1) := by decide +kernel
theorem dX7_arrange_128 : decode cX7_arrange 128 = .ok (.iinc 4 1, 3) := by decide +kernel
theorem dX7_arrange_131 : decode cX7_arrange 131 = .ok (.goto (-26), 3) := by decide +kernel
theorem dX7_arrange_134 : decode cX7_arrange 134 = .ok (.iconst (-1), 1) := by decide +kernel
theorem dX7_arrange_135 : decode cX7_arrange 135 = .ok (.ireturn, 1) := by decide +kernel
theorem dX7_isReady_0 : decode cX7_isReady 0 = .ok (.iconst 0, 1) := by decide +kernel
theorem dX7_isReady_1 : decode cX7_isReady 1 = .ok (.istore_n 3, 1) := by decide +kernel
theorem dX7_isReady_2 : decode cX7_isReady 2 = .ok (.iload_n 3, 1) := by decide +kernel
theorem dX7_isReady_3 : decode cX7_isReady 3 = .ok (.aload_n 0, 1) := by decide +kernel
theorem dX7_isReady_4 : decode cX7_isReady 4 = .ok (.getfield 164, 3) := by decide +kernel
theorem dX7_isReady_7 : decode cX7_isReady 7 = .ok (.if_icmp .ge 26, 3) := by decide +kernel
theorem dX7_isReady_10 : decode cX7_isReady 10 = .ok (.lload_n 1, 1) := by decide +kernel
theorem dX7_isReady_11 : decode cX7_isReady 11 = .ok (.aload_n 0, 1) := by decide +kernel
theorem dX7_isReady_12 : decode cX7_isReady 12 = .ok (.getfield 167, 3) := by decide +kernel
theorem dX7_isReady_15 : decode cX7_isReady 15 = .ok (.iload_n 3, 1) := by decide +kernel
theorem dX7_isReady_16 : decode cX7_isReady 16 = .ok (.iaload, 1) := by decide +kernel
theorem dX7_isReady_17 : decode cX7_isReady 17 = .ok (.lshr, 1) := by decide +kernel
theorem dX7_isReady_18 : decode cX7_isReady 18 = .ok (.lconst 1, 1) := by decide +kernel
theorem dX7_isReady_19 : decode cX7_isReady 19 = .ok (.land, 1) := by decide +kernel
theorem dX7_isReady_20 : decode cX7_isReady 20 = .ok (.lconst 0, 1) := by decide +kernel
theorem dX7_isReady_21 : decode cX7_isReady 21 = .ok (.lcmp, 1) := by decide +kernel
theorem dX7_isReady_22 : decode cX7_isReady 22 = .ok (.ifCond .ne 5, 3) := by decide +kernel
theorem dX7_isReady_25 : decode cX7_isReady 25 = .ok (.iconst 0, 1) := by decide +kernel
theorem dX7_isReady_26 : decode cX7_isReady 26 = .ok (.ireturn, 1) := by decide +kernel
theorem dX7_isReady_27 : decode cX7_isReady 27 = .ok (.iinc 3 1, 3) := by decide +kernel
theorem dX7_isReady_30 : decode cX7_isReady 30 = .ok (.goto (-28), 3) := by decide +kernel
theorem dX7_isReady_33 : decode cX7_isReady 33 = .ok (.iconst 1, 1) := by decide +kernel
theorem dX7_isReady_34 : decode cX7_isReady 34 = .ok (.ireturn, 1) := by decide +kernel
theorem dX7_inheritMask_0 : decode cX7_inheritMask 0 = .ok (.iconst 0, 1) := by decide +kernel
theorem dX7_inheritMask_1 : decode cX7_inheritMask 1 = .ok (.istore_n 2, 1) := by decide +kernel
theorem dX7_inheritMask_2 : decode cX7_inheritMask 2 = .ok (.iload_n 2, 1) := by decide +kernel
theorem dX7_inheritMask_3 : decode cX7_inheritMask 3 = .ok (.aload_n 1, 1) := by decide +kernel
theorem dX7_inheritMask_4 : decode cX7_inheritMask 4 = .ok (.getfield 164, 3) := by decide +kernel
theorem dX7_inheritMask_7 : decode cX7_inheritMask 7 = .ok (.if_icmp .ge 32, 3) := by decide +kernel
theorem dX7_inheritMask_10 : decode cX7_inheritMask 10 = .ok (.aload_n 1, 1) := by decide +kernel
theorem dX7_inheritMask_11 : decode cX7_inheritMask 11 = .ok (.dup, 1) := by decide +kernel
theorem dX7_inheritMask_12 : decode cX7_inheritMask 12 = .ok (.getfield 170, 3) := by decide +kernel
theorem dX7_inheritMask_15 : decode cX7_inheritMask 15 = .ok (.aload_n 0, 1) := by decide +kernel
theorem dX7_inheritMask_16 : decode cX7_inheritMask 16 = .ok (.getfield 11, 3) := by decide +kernel
theorem dX7_inheritMask_19 : decode cX7_inheritMask 19 = .ok (.aload_n 1, 1) := by decide +kernel
theorem dX7_inheritMask_20 : decode cX7_inheritMask 20 = .ok (.getfield 167, 3) := by decide +kernel
theorem dX7_inheritMask_23 : decode cX7_inheritMask 23 = .ok (.iload_n 2, 1) := by decide +kernel
theorem dX7_inheritMask_24 : decode cX7_inheritMask 24 = .ok (.iaload, 1) := by decide +kernel
theorem dX7_inheritMask_25 : decode cX7_inheritMask 25 = .ok (.aaload, 1) := by decide +kernel
theorem dX7_inheritMask_26 : decode cX7_inheritMask 26 = .ok (.getfield 170, 3) := by decide +kernel
theorem dX7_inheritMask_29 : decode cX7_inheritMask 29 = .ok (.ior, 1) := by decide +kernel
theorem dX7_inheritMask_30 : decode cX7_inheritMask 30 = .ok (.putfield 170, 3) := by decide +kernel
theorem dX7_inheritMask_33 : decode cX7_inheritMask 33 = .ok (.iinc 2 1, 3) := by decide +kernel
theorem dX7_inheritMask_36 : decode cX7_inheritMask 36 = .ok (.goto (-34), 3) := by decide +kernel
theorem dX7_inheritMask_39 : decode cX7_inheritMask 39 = .ok (.return_, 1) := by decide +kernel
theorem dX7_placeOfTeller_0 : decode cX7_placeOfTeller 0 = .ok (.aload_n 0, 1) := by decide +kernel
theorem dX7_placeOfTeller_1 : decode cX7_placeOfTeller 1 = .ok (.invokevirtual 173, 3) := by decide +kernel
theorem dX7_placeOfTeller_4 : decode cX7_placeOfTeller 4 = .ok (.iconst 0, 1) := by decide +kernel
theorem dX7_placeOfTeller_5 : decode cX7_placeOfTeller 5 = .ok (.istore_n 2, 1) := by decide +kernel
theorem dX7_placeOfTeller_6 : decode cX7_placeOfTeller 6 = .ok (.iload_n 2, 1) := by decide +kernel
theorem dX7_placeOfTeller_7 : decode cX7_placeOfTeller 7 = .ok (.iload_n 1, 1) := by decide +kernel
theorem dX7_placeOfTeller_8 : decode cX7_placeOfTeller 8 = .ok (.if_icmp .gt 16, 3) := by decide +kernel
theorem dX7_placeOfTeller_11 : decode cX7_placeOfTeller 11 = .ok (.aload_n 0, 1) := by decide +kernel
theorem dX7_placeOfTeller_12 : decode cX7_placeOfTeller 12 = .ok (.ldc 95, 2) := by decide +kernel
theorem dX7_placeOfTeller_14 : decode cX7_placeOfTeller 14 = .ok (.invokevirtual 103, 3) := by decide +kernel
theorem dX7_placeOfTeller_17 : decode cX7_placeOfTeller 17 = .ok (.pop, 1) := by decide +kernel
theorem dX7_placeOfTeller_18 : decode cX7_placeOfTeller 18 = .ok (.iinc 2 1, 3) := by decide +kernel
theorem dX7_placeOfTeller_21 : decode cX7_placeOfTeller 21 = .ok (.goto (-15), 3) := by decide +kernel
theorem dX7_placeOfTeller_24 : decode cX7_placeOfTeller 24 = .ok (.aload_n 0, 1) := by decide +kernel
theorem dX7_placeOfTeller_25 : decode cX7_placeOfTeller 25 = .ok (.getfield 135, 3) := by decide +kernel
theorem dX7_placeOfTeller_28 : decode cX7_placeOfTeller 28 = .ok (.iconst 0, 1) := by decide +kernel
theorem dX7_placeOfTeller_29 : decode cX7_placeOfTeller 29 = .ok (.iaload, 1) := by decide +kernel
theorem dX7_placeOfTeller_30 : decode cX7_placeOfTeller 30 = .ok (.ireturn, 1) := by decide +kernel
theorem dX7_numberOf_0 : decode cX7_numberOf 0 = .ok (.iconst 0, 1) := by decide +kernel
theorem dX7_numberOf_1 : decode cX7_numberOf 1 = .ok (.istore_n 3, 1) := by decide +kernel
theorem dX7_numberOf_2 : decode cX7_numberOf 2 = .ok (.iload_n 3, 1) := by decide +kernel
theorem dX7_numberOf_3 : decode cX7_numberOf 3 = .ok (.aload_n 0, 1) := by decide +kernel
theorem dX7_numberOf_4 : decode cX7_numberOf 4 = .ok (.getfield 77, 3) := by decide +kernel
theorem dX7_numberOf_7 : decode cX7_numberOf 7 = .ok (.if_icmp .ge 25, 3) := by decide +kernel
theorem dX7_numberOf_10 : decode cX7_numberOf 10 = .ok (.aload_n 0, 1) := by decide +kernel
theorem dX7_numberOf_11 : decode cX7_numberOf 11 = .ok (.getfield 11, 3) := by decide +kernel
theorem dX7_numberOf_14 : decode cX7_numberOf 14 = .ok (.iload_n 3, 1) := by decide +kernel
theorem dX7_numberOf_15 : decode cX7_numberOf 15 = .ok (.aaload, 1) := by decide +kernel
theorem dX7_numberOf_16 : decode cX7_numberOf 16 = .ok (.getfield 176, 3) := by decide +kernel
theorem dX7_numberOf_19 : decode cX7_numberOf 19 = .ok (.lload_n 1, 1) := by decide +kernel
theorem dX7_numberOf_20 : decode cX7_numberOf 20 = .ok (.lcmp, 1) := by decide +kernel
theorem dX7_numberOf_21 : decode cX7_numberOf 21 = .ok (.ifCond .ne 5, 3) := by decide +kernel
theorem dX7_numberOf_24 : decode cX7_numberOf 24 = .ok (.iload_n 3, 1) := by decide +kernel
theorem dX7_numberOf_25 : decode cX7_numberOf 25 = .ok (.ireturn, 1) := by decide +kernel
theorem dX7_numberOf_26 : decode cX7_numberOf 26 = .ok (.iinc 3 1, 3) := by decide +kernel
theorem dX7_numberOf_29 : decode cX7_numberOf 29 = .ok (.goto (-27), 3) := by decide +kernel
theorem dX7_numberOf_32 : decode cX7_numberOf 32 = .ok (.iconst (-1), 1) := by decide +kernel
theorem dX7_numberOf_33 : decode cX7_numberOf 33 = .ok (.ireturn, 1) := by decide +kernel
theorem dX7_moveTo_0 : decode cX7_moveTo 0 = .ok (.aload_n 0, 1) := by decide +kernel
theorem dX7_moveTo_1 : decode cX7_moveTo 1 = .ok (.getfield 20, 3) := by decide +kernel
theorem dX7_moveTo_4 : decode cX7_moveTo 4 = .ok (.iload_n 1, 1) := by decide +kernel
theorem dX7_moveTo_5 : decode cX7_moveTo 5 = .ok (.iaload, 1) := by decide +kernel
theorem dX7_moveTo_6 : decode cX7_moveTo 6 = .ok (.iload_n 2, 1) := by decide +kernel
theorem dX7_moveTo_7 : decode cX7_moveTo 7 = .ok (.if_icmp .ne 4, 3) := by decide +kernel
theorem dX7_moveTo_10 : decode cX7_moveTo 10 = .ok (.return_, 1) := by decide +kernel
theorem dX7_moveTo_11 : decode cX7_moveTo 11 = .ok (.aload_n 0, 1) := by decide +kernel
theorem dX7_moveTo_12 : decode cX7_moveTo 12 = .ok (.getfield 20, 3) := by decide +kernel
theorem dX7_moveTo_15 : decode cX7_moveTo 15 = .ok (.iload_n 1, 1) := by decide +kernel
theorem dX7_moveTo_16 : decode cX7_moveTo 16 = .ok (.iload_n 2, 1) := by decide +kernel
theorem dX7_moveTo_17 : decode cX7_moveTo 17 = .ok (.iastore, 1) := by decide +kernel
theorem dX7_moveTo_18 : decode cX7_moveTo 18 = .ok (.aload_n 0, 1) := by decide +kernel
theorem dX7_moveTo_19 : decode cX7_moveTo 19 = .ok (.getfield 25, 3) := by decide +kernel
theorem dX7_moveTo_22 : decode cX7_moveTo 22 = .ok (.iload_n 1, 1) := by decide +kernel
theorem dX7_moveTo_23 : decode cX7_moveTo 23 = .ok (.aaload, 1) := by decide +kernel
theorem dX7_moveTo_24 : decode cX7_moveTo 24 = .ok (.iload_n 2, 1) := by decide +kernel
theorem dX7_moveTo_25 : decode cX7_moveTo 25 = .ok (.invokevirtual 180, 3) := by decide +kernel
theorem dX7_moveTo_28 : decode cX7_moveTo 28 = .ok (.aload_n 0, 1) := by decide +kernel
theorem dX7_moveTo_29 : decode cX7_moveTo 29 = .ok (.iconst 0, 1) := by decide +kernel
theorem dX7_moveTo_30 : decode cX7_moveTo 30 = .ok (.putfield 87, 3) := by decide +kernel
theorem dX7_moveTo_33 : decode cX7_moveTo 33 = .ok (.aload_n 0, 1) := by decide +kernel
theorem dX7_moveTo_34 : decode cX7_moveTo 34 = .ok (.sipush 256, 3) := by decide +kernel
theorem dX7_moveTo_37 : decode cX7_moveTo 37 = .ok (.iload_n 1, 1) := by decide +kernel
theorem dX7_moveTo_38 : decode cX7_moveTo 38 = .ok (.ishl, 1) := by decide +kernel
theorem dX7_moveTo_39 : decode cX7_moveTo 39 = .ok (.invokevirtual 184, 3) := by decide +kernel
theorem dX7_moveTo_42 : decode cX7_moveTo 42 = .ok (.return_, 1) := by decide +kernel
theorem dX7_touch_0 : decode cX7_touch 0 = .ok (.iconst 0, 1) := by decide +kernel
theorem dX7_touch_1 : decode cX7_touch 1 = .ok (.istore_n 2, 1) := by decide +kernel
theorem dX7_touch_2 : decode cX7_touch 2 = .ok (.iload_n 2, 1) := by decide +kernel
theorem dX7_touch_3 : decode cX7_touch 3 = .ok (.aload_n 0, 1) := by decide +kernel
theorem dX7_touch_4 : decode cX7_touch 4 = .ok (.getfield 77, 3) := by decide +kernel
theorem dX7_touch_7 : decode cX7_touch 7 = .ok (.if_icmp .ge 33, 3) := by decide +kernel
theorem dX7_touch_10 : decode cX7_touch 10 = .ok (.aload_n 0, 1) := by decide +kernel
theorem dX7_touch_11 : decode cX7_touch 11 = .ok (.getfield 11, 3) := by decide +kernel
theorem dX7_touch_14 : decode cX7_touch 14 = .ok (.iload_n 2, 1) := by decide +kernel
theorem dX7_touch_15 : decode cX7_touch 15 = .ok (.aaload, 1) := by decide +kernel
theorem dX7_touch_16 : decode cX7_touch 16 = .ok (.getfield 170, 3) := by decide +kernel
theorem dX7_touch_19 : decode cX7_touch 19 = .ok (.iload_n 1, 1) := by decide +kernel
theorem dX7_touch_20 : decode cX7_touch 20 = .ok (.iand, 1) := by decide +kernel
theorem dX7_touch_21 : decode cX7_touch 21 = .ok (.ifCond .eq 13, 3) := by decide +kernel
theorem dX7_touch_24 : decode cX7_touch 24 = .ok (.aload_n 0, 1) := by decide +kernel
theorem dX7_touch_25 : decode cX7_touch 25 = .ok (.getfield 11, 3) := by decide +kernel
theorem dX7_touch_28 : decode cX7_touch 28 = .ok (.iload_n 2, 1) := by decide +kernel
theorem dX7_touch_29 : decode cX7_touch 29 = .ok (.aaload, 1) := by decide +kernel
theorem dX7_touch_30 : decode cX7_touch 30 = .ok (.iconst 0, 1) := by decide +kernel
theorem dX7_touch_31 : decode cX7_touch 31 = .ok (.putfield 187, 3) := by decide +kernel
theorem dX7_touch_34 : decode cX7_touch 34 = .ok (.iinc 2 1, 3) := by decide +kernel
theorem dX7_touch_37 : decode cX7_touch 37 = .ok (.goto (-35), 3) := by decide +kernel
theorem dX7_touch_40 : decode cX7_touch 40 = .ok (.return_, 1) := by decide +kernel
theorem dX7_look_0 : decode cX7_look 0 = .ok (.iload_n 1, 1) := by decide +kernel
theorem dX7_look_1 : decode cX7_look 1 = .ok (.iconst 1, 1) := by decide +kernel
theorem dX7_look_2 : decode cX7_look 2 = .ok (.aload_n 0, 1) := by decide +kernel
theorem dX7_look_3 : decode cX7_look 3 = .ok (.getfield 81, 3) := by decide +kernel
theorem dX7_look_6 : decode cX7_look 6 = .ok (.ishl, 1) := by decide +kernel
theorem dX7_look_7 : decode cX7_look 7 = .ok (.iconst 1, 1) := by decide +kernel
theorem dX7_look_8 : decode cX7_look 8 = .ok (.isub, 1) := by decide +kernel
theorem dX7_look_9 : decode cX7_look 9 = .ok (.iand, 1) := by decide +kernel
theorem dX7_look_10 : decode cX7_look 10 = .ok (.istore_n 3, 1) := by decide +kernel
theorem dX7_look_11 : decode cX7_look 11 = .ok (.iload_n 3, 1) := by decide +kernel
theorem dX7_look_12 : decode cX7_look 12 = .ok (.aload_n 0, 1) := by decide +kernel
theorem dX7_look_13 : decode cX7_look 13 = .ok (.getfield 84, 3) := by decide +kernel
theorem dX7_look_16 : decode cX7_look 16 = .ok (.if_icmp .eq 18, 3) := by decide +kernel
theorem dX7_look_19 : decode cX7_look 19 = .ok (.aload_n 0, 1) := by decide +kernel
theorem dX7_look_20 : decode cX7_look 20 = .ok (.iload_n 3, 1) := by decide +kernel
theorem dX7_look_21 : decode cX7_look 21 = .ok (.aload_n 0, 1) := by decide +kernel
theorem dX7_look_22 : decode cX7_look 22 = .ok (.getfield 84, 3) := by decide +kernel
theorem dX7_look_25 : decode cX7_look 25 = .ok (.ixor, 1) := by decide +kernel
theorem dX7_look_26 : decode cX7_look 26 = .ok (.invokevirtual 184, 3) := by decide +kernel
theorem dX7_look_29 : decode cX7_look 29 = .ok (.aload_n 0, 1) := by decide +kernel
theorem dX7_look_30 : decode cX7_look 30 = .ok (.iload_n 3, 1) := by decide +kernel
theorem dX7_look_31 : decode cX7_look 31 = .ok (.putfield 84, 3) := by decide +kernel
theorem dX7_look_34 : decode cX7_look 34 = .ok (.iconst 0, 1) := by decide +kernel
theorem dX7_look_35 : decode cX7_look 35 = .ok (.istore 4, 2) := by decide +kernel
theorem dX7_look_37 : decode cX7_look 37 = .ok (.iconst 0, 1) := by decide +kernel
theorem dX7_look_38 : decode cX7_look 38 = .ok (.istore 5, 2) := by decide +kernel
theorem dX7_look_40 : decode cX7_look 40 = .ok (.iload 5, 2) := by decide +kernel
theorem dX7_look_42 : decode cX7_look 42 = .ok (.aload_n 0, 1) := by decide +kernel
theorem dX7_look_43 : decode cX7_look 43 = .ok (.getfield 77, 3) := by decide +kernel
theorem dX7_look_46 : decode cX7_look 46 = .ok (.if_icmp .ge 265, 3) := by decide +kernel
theorem dX7_look_49 : decode cX7_look 49 = .ok (.aload_n 0, 1) := by decide +kernel
theorem dX7_look_50 : decode cX7_look 50 = .ok (.getfield 11, 3) := by decide +kernel
theorem dX7_look_53 : decode cX7_look 53 = .ok (.aload_n 0, 1) := by decide +kernel
theorem dX7_look_54 : decode cX7_look 54 = .ok (.getfield 16, 3) := by decide +kernel
theorem dX7_look_57 : decode cX7_look 57 = .ok (.iload 5, 2) := by decide +kernel
theorem dX7_look_59 : decode cX7_look 59 = .ok (.iaload, 1) := by decide +kernel
theorem dX7_look_60 : decode cX7_look 60 = .ok (.aaload, 1) := by decide +kernel
theorem dX7_look_61 : decode cX7_look 61 = .ok (.astore 6, 2) := by decide +kernel
theorem dX7_look_63 : decode cX7_look 63 = .ok (.aload 6, 2) := by decide +kernel
theorem dX7_look_65 : decode cX7_look 65 = .ok (.getfield 187, 3) := by decide +kernel
theorem dX7_look_68 : decode cX7_look 68 = .ok (.ifCond .ne 29, 3) := by decide +kernel
theorem dX7_look_71 : decode cX7_look 71 = .ok (.aload_n 0, 1) := by decide +kernel
theorem dX7_look_72 : decode cX7_look 72 = .ok (.aload 6, 2) := by decide +kernel
theorem dX7_look_74 : decode cX7_look 74 = .ok (.invokevirtual 190, 3) := by decide +kernel
theorem dX7_look_77 : decode cX7_look 77 = .ok (.ifCond .eq 20, 3) := by decide +kernel
theorem dX7_look_80 : decode cX7_look 80 = .ok (.aload 6, 2) := by decide +kernel
theorem dX7_look_82 : decode cX7_look 82 = .ok (.getfield 194, 3) := by decide +kernel
theorem dX7_look_85 : decode cX7_look 85 = .ok (.invokevirtual 197, 3) := by decide +kernel
theorem dX7_look_88 : decode cX7_look 88 = .ok (.aload 6, 2) := by decide +kernel
theorem dX7_look_90 : decode cX7_look 90 = .ok (.iconst 2, 1) := by decide +kernel
theorem dX7_look_91 : decode cX7_look 91 = .ok (.putfield 200, 3) := by decide +kernel
theorem dX7_look_94 : decode cX7_look 94 = .ok (.goto 171, 3) := by decide +kernel
theorem dX7_look_97 : decode cX7_look 97 = .ok (.aload 6, 2) := by decide +kernel
theorem dX7_look_99 : decode cX7_look 99 = .ok (.getfield 187, 3) := by decide +kernel
theorem dX7_look_102 : decode cX7_look 102 = .ok (.ifCond .ne 163, 3) := by decide +kernel
theorem dX7_look_105 : decode cX7_look 105 = .ok (.aload 6, 2) := by decide +kernel
theorem dX7_look_107 : decode cX7_look 107 = .ok (.getfield 203, 3) := by decide +kernel
theorem dX7_look_110 : decode cX7_look 110 = .ok (.tableswitch 145 1 5 #[34, 48, 62, 76, 131], 34) := by decide +kernel
theorem dX7_look_144 : decode cX7_look 144 = .ok (.aload 6, 2) := by decide +kernel
theorem dX7_look_146 : decode cX7_look 146 = .ok (.aload_n 0, 1) := by decide +kernel
theorem dX7_look_147 : decode cX7_look 147 = .ok (.aload 6, 2) := by decide +kernel
theorem dX7_look_149 : decode cX7_look 149 = .ok (.invokevirtual 206, 3) := by decide +kernel
theorem dX7_look_152 : decode cX7_look 152 = .ok (.putfield 200, 3) := by decide +kernel
theorem dX7_look_155 : decode cX7_look 155 = .ok (.goto 110, 3) := by decide +kernel
theorem dX7_look_158 : decode cX7_look 158 = .ok (.aload 6, 2) := by decide +kernel
theorem dX7_look_160 : decode cX7_look 160 = .ok (.aload_n 0, 1) := by decide +kernel
theorem dX7_look_161 : decode cX7_look 161 = .ok (.aload 6, 2) := by decide +kernel
theorem dX7_look_163 : decode cX7_look 163 = .ok (.invokevirtual 210, 3) := by decide +kernel
theorem dX7_look_166 : decode cX7_look 166 = .ok (.putfield 200, 3) := by decide +kernel
theorem dX7_look_169 : decode cX7_look 169 = .ok (.goto 96, 3) := by decide +kernel
theorem dX7_look_172 : decode cX7_look 172 = .ok (.aload 6, 2) := by decide +kernel
theorem dX7_look_174 : decode cX7_look 174 = .ok (.aload_n 0, 1) := by decide +kernel
theorem dX7_look_175 : decode cX7_look 175 = .ok (.aload 6, 2) := by decide +kernel
theorem dX7_look_177 : decode cX7_look 177 = .ok (.invokevirtual 213, 3) := by decide +kernel
theorem dX7_look_180 : decode cX7_look 180 = .ok (.putfield 200, 3) := by decide +kernel
theorem dX7_look_183 : decode cX7_look 183 = .ok (.goto 82, 3) := by decide +kernel
theorem dX7_look_186 : decode cX7_look 186 = .ok (.aload_n 0, 1) := by decide +kernel
theorem dX7_look_187 : decode cX7_look 187 = .ok (.aload 6, 2) := by decide +kernel
theorem dX7_look_189 : decode cX7_look 189 = .ok (.aload 6, 2) := by decide +kernel
theorem dX7_look_191 : decode cX7_look 191 = .ok (.getfield 194, 3) := by decide +kernel
theorem dX7_look_194 : decode cX7_look 194 = .ok (.aload_n 0, 1) := by decide +kernel
theorem dX7_look_195 : decode cX7_look 195 = .ok (.getfield 11, 3) := by decide +kernel
theorem dX7_look_198 : decode cX7_look 198 = .ok (.aload 6, 2) := by decide +kernel
theorem dX7_look_200 : decode cX7_look 200 = .ok (.getfield 167, 3) := by decide +kernel
theorem dX7_look_203 : decode cX7_look 203 = .ok (.iconst 0, 1) := by decide +kernel
theorem dX7_look_204 : decode cX7_look 204 = .ok (.iaload, 1) := by decide +kernel
theorem dX7_look_205 : decode cX7_look 205 = .ok (.aaload, 1) := by decide +kernel
theorem dX7_look_206 : decode cX7_look 206 = .ok (.getfield 194, 3) := by decide +kernel
theorem dX7_look_209 : decode cX7_look 209 = .ok (.aload_n 0, 1) := by decide +kernel
theorem dX7_look_210 : decode cX7_look 210 = .ok (.getfield 11, 3) := by decide +kernel
theorem dX7_look_213 : decode cX7_look 213 = .ok (.aload 6, 2) := by decide +kernel
theorem dX7_look_215 : decode cX7_look 215 = .ok (.getfield 167, 3) := by decide +kernel
theorem dX7_look_218 : decode cX7_look 218 = .ok (.iconst 1, 1) := by decide +kernel
theorem dX7_look_219 : decode cX7_look 219 = .ok (.iaload, 1) := by decide +kernel
theorem dX7_look_220 : decode cX7_look 220 = .ok (.aaload, 1) := by decide +kernel
theorem dX7_look_221 : decode cX7_look 221 = .ok (.getfield 194, 3) := by decide +kernel
theorem dX7_look_224 : decode cX7_look 224 = .ok (.invokevirtual 216, 3) := by decide +kernel
theorem dX7_look_227 : decode cX7_look 227 = .ok (.aload 6, 2) := by decide +kernel
theorem dX7_look_229 : decode cX7_look 229 = .ok (.aload 6, 2) := by decide +kernel
theorem dX7_look_231 : decode cX7_look 231 = .ok (.iconst 0, 1) := by decide +kernel
theorem dX7_look_232 : decode cX7_look 232 = .ok (.invokestatic 220, 3) := by decide +kernel
theorem dX7_look_235 : decode cX7_look 235 = .ok (.putfield 200, 3) := by decide +kernel
theorem dX7_look_238 : decode cX7_look 238 = .ok (.goto 27, 3) := by decide +kernel
theorem dX7_look_241 : decode cX7_look 241 = .ok (.aload 6, 2) := by decide +kernel
theorem dX7_look_243 : decode cX7_look 243 = .ok (.aload_n 0, 1) := by decide +kernel
theorem dX7_look_244 : decode cX7_look 244 = .ok (.aload 6, 2) := by decide +kernel
theorem dX7_look_246 : decode cX7_look 246 = .ok (.invokevirtual 224, 3) := by decide +kernel
theorem dX7_look_249 : decode cX7_look 249 = .ok (.putfield 200, 3) := by decide +kernel
theorem dX7_look_252 : decode cX7_look 252 = .ok (.goto 13, 3) := by decide +kernel
theorem dX7_look_255 : decode cX7_look 255 = .ok (.aload 6, 2) := by decide +kernel
theorem dX7_look_257 : decode cX7_look 257 = .ok (.aload 6, 2) := by decide +kernel
theorem dX7_look_259 : decode cX7_look 259 = .ok (.invokestatic 227, 3) := by decide +kernel
theorem dX7_look_262 : decode cX7_look 262 = .ok (.putfield 200, 3) := by decide +kernel
theorem dX7_look_265 : decode cX7_look 265 = .ok (.aload 6, 2) := by decide +kernel
theorem dX7_look_267 : decode cX7_look 267 = .ok (.iconst 1, 1) := by decide +kernel
theorem dX7_look_268 : decode cX7_look 268 = .ok (.putfield 187, 3) := by decide +kernel
theorem dX7_look_271 : decode cX7_look 271 = .ok (.aload 6, 2) := by decide +kernel
theorem dX7_look_273 : decode cX7_look 273 = .ok (.getfield 200, 3) := by decide +kernel
theorem dX7_look_276 : decode cX7_look 276 = .ok (.iconst 3, 1) := by decide +kernel
theorem dX7_look_277 : decode cX7_look 277 = .ok (.if_icmp .ne 5, 3) := by decide +kernel
theorem dX7_look_280 : decode cX7_look 280 = .ok (.iconst 3, 1) := by decide +kernel
theorem dX7_look_281 : decode cX7_look 281 = .ok (.ireturn, 1) := by decide +kernel
theorem dX7_look_282 : decode cX7_look 282 = .ok (.aload 6, 2) := by decide +kernel
theorem dX7_look_284 : decode cX7_look 284 = .ok (.getfield 200, 3) := by decide +kernel
theorem dX7_look_287 : decode cX7_look 287 = .ok (.ifCond .eq 6, 3) := by decide +kernel
theorem dX7_look_290 : decode cX7_look 290 = .ok (.iconst 1, 1) := by decide +kernel
theorem dX7_look_291 : decode cX7_look 291 = .ok (.istore 4, 2) := by decide +kernel
theorem dX7_look_293 : decode cX7_look 293 = .ok (.iload_n 2, 1) := by decide +kernel
theorem dX7_look_294 : decode cX7_look 294 = .ok (.ifCond .eq 11, 3) := by decide +kernel
theorem dX7_look_297 : decode cX7_look 297 = .ok (.iload 4, 2) := by decide +kernel
theorem dX7_look_299 : decode cX7_look 299 = .ok (.ifCond .eq 6, 3) := by decide +kernel
theorem dX7_look_302 : decode cX7_look 302 = .ok (.iload 4, 2) := by decide +kernel
theorem dX7_look_304 : decode cX7_look 304 = .ok (.ireturn, 1) := by decide +kernel
theorem dX7_look_305 : decode cX7_look 305 = .ok (.iinc 5 1, 3) := by decide +kernel
theorem dX7_look_308 : decode cX7_look 308 = .ok (.goto (-268), 3) := by decide +kernel
theorem dX7_look_311 : decode cX7_look 311 = .ok (.iload 4, 2) := by decide +kernel
theorem dX7_look_313 : decode cX7_look 313 = .ok (.ireturn, 1) := by decide +kernel
theorem dX7_hangsOnOpen_0 : decode cX7_hangsOnOpen 0 = .ok (.iconst 0, 1) := by decide +kernel
theorem dX7_hangsOnOpen_1 : decode cX7_hangsOnOpen 1 = .ok (.istore_n 2, 1) := by decide +kernel
theorem dX7_hangsOnOpen_2 : decode cX7_hangsOnOpen 2 = .ok (.iload_n 2, 1) := by decide +kernel
theorem dX7_hangsOnOpen_3 : decode cX7_hangsOnOpen 3 = .ok (.aload_n 1, 1) := by decide +kernel
theorem dX7_hangsOnOpen_4 : decode cX7_hangsOnOpen 4 = .ok (.getfield 164, 3) := by decide +kernel
theorem dX7_hangsOnOpen_7 : decode cX7_hangsOnOpen 7 = .ok (.if_icmp .ge 29, 3) := by decide +kernel
theorem dX7_hangsOnOpen_10 : decode cX7_hangsOnOpen 10 = .ok (.aload_n 0, 1) := by decide +kernel
theorem dX7_hangsOnOpen_11 : decode cX7_hangsOnOpen 11 = .ok (.getfield 11, 3) := by decide +kernel
theorem dX7_hangsOnOpen_14 : decode cX7_hangsOnOpen 14 = .ok (.aload_n 1, 1) := by decide +kernel
theorem dX7_hangsOnOpen_15 : decode cX7_hangsOnOpen 15 = .ok (.getfield 167, 3) := by decide +kernel
theorem dX7_hangsOnOpen_18 : decode cX7_hangsOnOpen 18 = .ok (.iload_n 2, 1) := by decide +kernel
theorem dX7_hangsOnOpen_19 : decode cX7_hangsOnOpen 19 = .ok (.iaload, 1) := by decide +kernel
theorem dX7_hangsOnOpen_20 : decode cX7_hangsOnOpen 20 = .ok (.aaload, 1) := by decide +kernel
theorem dX7_hangsOnOpen_21 : decode cX7_hangsOnOpen 21 = .ok (.getfield 200, 3) := by decide +kernel
theorem dX7_hangsOnOpen_24 : decode cX7_hangsOnOpen 24 = .ok (.iconst 2, 1) := by decide +kernel
theorem dX7_hangsOnOpen_25 : decode cX7_hangsOnOpen 25 = .ok (.if_icmp .ne 5, 3) := by decide +kernel
theorem dX7_hangsOnOpen_28 : decode cX7_hangsOnOpen 28 = .ok (.iconst 1, 1) := by decide +kernel
theorem dX7_hangsOnOpen_29 : decode cX7_hangsOnOpen 29 = .ok (.ireturn, 1) := by decide +kernel
theorem dX7_hangsOnOpen_30 : decode cX7_hangsOnOpen 30 = .ok (.iinc 2 1, 3) := by decide +kernel
theorem dX7_hangsOnOpen_33 : decode cX7_hangsOnOpen 33 = .ok (.goto (-31), 3) := by decide +kernel
theorem dX7_hangsOnOpen_36 : decode cX7_hangsOnOpen 36 = .ok (.iconst 0, 1) := by decide +kernel
theorem dX7_hangsOnOpen_37 : decode cX7_hangsOnOpen 37 = .ok (.ireturn, 1) := by decide +kernel
theorem dX7_openOr_0 : decode cX7_openOr 0 = .ok (.aload_n 0, 1) := by decide +kernel
theorem dX7_openOr_1 : decode cX7_openOr 1 = .ok (.getfield 194, 3) := by decide +kernel
theorem dX7_openOr_4 : decode cX7_openOr 4 = .ok (.invokevirtual 230, 3) := by decide +kernel
theorem dX7_openOr_7 : decode cX7_openOr 7 = .ok (.ifCond .eq 7, 3) := by decide +kernel
theorem dX7_openOr_10 : decode cX7_openOr 10 = .ok (.iconst 2, 1) := by decide +kernel
theorem dX7_openOr_11 : decode cX7_openOr 11 = .ok (.goto 4, 3) := by decide +kernel
theorem dX7_openOr_14 : decode cX7_openOr 14 = .ok (.iload_n 1, 1) := by decide +kernel
theorem dX7_openOr_15 : decode cX7_openOr 15 = .ok (.ireturn, 1) := by decide +kernel
theorem dX7_placeFix_0 : decode cX7_placeFix 0 = .ok (.aload_n 0, 1) := by decide +kernel
theorem dX7_placeFix_1 : decode cX7_placeFix 1 = .ok (.getfield 194, 3) := by decide +kernel
theorem dX7_placeFix_4 : decode cX7_placeFix 4 = .ok (.getfield 30, 3) := by decide +kernel
theorem dX7_placeFix_7 : decode cX7_placeFix 7 = .ok (.aload_n 0, 1) := by decide +kernel
theorem dX7_placeFix_8 : decode cX7_placeFix 8 = .ok (.getfield 234, 3) := by decide +kernel
theorem dX7_placeFix_11 : decode cX7_placeFix 11 = .ok (.invokevirtual 237, 3) := by decide +kernel
theorem dX7_placeFix_14 : decode cX7_placeFix 14 = .ok (.aload_n 0, 1) := by decide +kernel
theorem dX7_placeFix_15 : decode cX7_placeFix 15 = .ok (.getfield 194, 3) := by decide +kernel
theorem dX7_placeFix_18 : decode cX7_placeFix 18 = .ok (.getfield 241, 3) := by decide +kernel
theorem dX7_placeFix_21 : decode cX7_placeFix 21 = .ok (.aload_n 0, 1) := by decide +kernel
theorem dX7_placeFix_22 : decode cX7_placeFix 22 = .ok (.getfield 244, 3) := by decide +kernel
theorem dX7_placeFix_25 : decode cX7_placeFix 25 = .ok (.invokevirtual 237, 3) := by decide +kernel
theorem dX7_placeFix_28 : decode cX7_placeFix 28 = .ok (.aload_n 0, 1) := by decide +kernel
theorem dX7_placeFix_29 : decode cX7_placeFix 29 = .ok (.iconst 0, 1) := by decide +kernel
theorem dX7_placeFix_30 : decode cX7_placeFix 30 = .ok (.invokestatic 220, 3) := by decide +kernel
theorem dX7_placeFix_33 : decode cX7_placeFix 33 = .ok (.ireturn, 1) := by decide +kernel
theorem dX7_placeCrank_0 : decode cX7_placeCrank 0 = .ok (.aload_n 0, 1) := by decide +kernel
theorem dX7_placeCrank_1 : decode cX7_placeCrank 1 = .ok (.getfield 48, 3) := by decide +kernel
theorem dX7_placeCrank_4 : decode cX7_placeCrank 4 = .ok (.aload_n 0, 1) := by decide +kernel
theorem dX7_placeCrank_5 : decode cX7_placeCrank 5 = .ok (.getfield 25, 3) := by decide +kernel
theorem dX7_placeCrank_8 : decode cX7_placeCrank 8 = .ok (.aload_n 1, 1) := by decide +kernel
theorem dX7_placeCrank_9 : decode cX7_placeCrank 9 = .ok (.getfield 247, 3) := by decide +kernel
theorem dX7_placeCrank_12 : decode cX7_placeCrank 12 = .ok (.aaload, 1) := by decide +kernel
theorem dX7_placeCrank_13 : decode cX7_placeCrank 13 = .ok (.invokevirtual 250, 3) := by decide +kernel
theorem dX7_placeCrank_16 : decode cX7_placeCrank 16 = .ok (.aload_n 1, 1) := by decide +kernel
theorem dX7_placeCrank_17 : decode cX7_placeCrank 17 = .ok (.getfield 253, 3) := by decide +kernel
theorem dX7_placeCrank_20 : decode cX7_placeCrank 20 = .ok (.ifCond .ge 20, 3) := by decide +kernel
theorem dX7_placeCrank_23 : decode cX7_placeCrank 23 = .ok (.aload_n 0, 1) := by decide +kernel
theorem dX7_placeCrank_24 : decode cX7_placeCrank 24 = .ok (.getfield 48, 3) := by decide +kernel
theorem dX7_placeCrank_27 : decode cX7_placeCrank 27 = .ok (.getfield 241, 3) := by decide +kernel
theorem dX7_placeCrank_30 : decode cX7_placeCrank 30 = .ok (.aload_n 0, 1) := by decide +kernel
theorem dX7_placeCrank_31 : decode cX7_placeCrank 31 = .ok (.getfield 48, 3) := by decide +kernel
theorem dX7_placeCrank_34 : decode cX7_placeCrank 34 = .ok (.getfield 241, 3) := by decide +kernel
theorem dX7_placeCrank_37 : decode cX7_placeCrank 37 = .ok (.invokevirtual 256, 3) := by decide +kernel
theorem dX7_placeCrank_40 : decode cX7_placeCrank 40 = .ok (.aload_n 1, 1) := by decide +kernel
theorem dX7_placeCrank_41 : decode cX7_placeCrank 41 = .ok (.getfield 259, 3) := by decide +kernel
theorem dX7_placeCrank_44 : decode cX7_placeCrank 44 = .ok (.aload_n 0, 1) := by decide +kernel
theorem dX7_placeCrank_45 : decode cX7_placeCrank 45 = .ok (.getfield 48, 3) := by decide +kernel
theorem dX7_placeCrank_48 : decode cX7_placeCrank 48 = .ok (.invokevirtual 250, 3) := by decide +kernel
theorem dX7_placeCrank_51 : decode cX7_placeCrank 51 = .ok (.aload_n 1, 1) := by decide +kernel
theorem dX7_placeCrank_52 : decode cX7_placeCrank 52 = .ok (.getfield 253, 3) := by decide +kernel
theorem dX7_placeCrank_55 : decode cX7_placeCrank 55 = .ok (.ifCond .ne 26, 3) := by decide +kernel
theorem dX7_placeCrank_58 : decode cX7_placeCrank 58 = .ok (.aload_n 1, 1) := by decide +kernel
theorem dX7_placeCrank_59 : decode cX7_placeCrank 59 = .ok (.getfield 259, 3) := by decide +kernel
theorem dX7_placeCrank_62 : decode cX7_placeCrank 62 = .ok (.invokevirtual 262, 3) := by decide +kernel
theorem dX7_placeCrank_65 : decode cX7_placeCrank 65 = .ok (.aload_n 1, 1) := by decide +kernel
theorem dX7_placeCrank_66 : decode cX7_placeCrank 66 = .ok (.getfield 259, 3) := by decide +kernel
theorem dX7_placeCrank_69 : decode cX7_placeCrank 69 = .ok (.getfield 30, 3) := by decide +kernel
theorem dX7_placeCrank_72 : decode cX7_placeCrank 72 = .ok (.ldc2_w 36, 3) := by decide +kernel
theorem dX7_placeCrank_75 : decode cX7_placeCrank 75 = .ok (.ldc2_w 36, 3) := by decide +kernel
theorem dX7_placeCrank_78 : decode cX7_placeCrank 78 = .ok (.invokevirtual 38, 3) := by decide +kernel
theorem dX7_placeCrank_81 : decode cX7_placeCrank 81 = .ok (.iconst 1, 1) := by decide +kernel
theorem dX7_placeCrank_82 : decode cX7_placeCrank 82 = .ok (.istore_n 2, 1) := by decide +kernel
theorem dX7_placeCrank_83 : decode cX7_placeCrank 83 = .ok (.iload_n 2, 1) := by decide +kernel
theorem dX7_placeCrank_84 : decode cX7_placeCrank 84 = .ok (.aload_n 1, 1) := by decide +kernel
theorem dX7_placeCrank_85 : decode cX7_placeCrank 85 = .ok (.getfield 253, 3) := by decide +kernel
theorem dX7_placeCrank_88 : decode cX7_placeCrank 88 = .ok (.invokestatic 265, 3) := by decide +kernel
theorem dX7_placeCrank_91 : decode cX7_placeCrank 91 = .ok (.if_icmp .ge 35, 3) := by decide +kernel
theorem dX7_placeCrank_94 : decode cX7_placeCrank 94 = .ok (.aload_n 0, 1) := by decide +kernel
theorem dX7_placeCrank_95 : decode cX7_placeCrank 95 = .ok (.getfield 52, 3) := by decide +kernel
theorem dX7_placeCrank_98 : decode cX7_placeCrank 98 = .ok (.aload_n 1, 1) := by decide +kernel
theorem dX7_placeCrank_99 : decode cX7_placeCrank 99 = .ok (.getfield 259, 3) := by decide +kernel
theorem dX7_placeCrank_102 : decode cX7_placeCrank 102 = .ok (.aload_n 0, 1) := by decide +kernel
theorem dX7_placeCrank_103 : decode cX7_placeCrank 103 = .ok (.getfield 48, 3) := by decide +kernel
theorem dX7_placeCrank_106 : decode cX7_placeCrank 106 = .ok (.invokevirtual 271, 3) := by decide +kernel
theorem dX7_placeCrank_109 : decode cX7_placeCrank 109 = .ok (.aload_n 1, 1) := by decide +kernel
theorem dX7_placeCrank_110 : decode cX7_placeCrank 110 = .ok (.getfield 259, 3) := by decide +kernel
theorem dX7_placeCrank_113 : decode cX7_placeCrank 113 = .ok (.aload_n 0, 1) := by decide +kernel
theorem dX7_placeCrank_114 : decode cX7_placeCrank 114 = .ok (.getfield 52, 3) := by decide +kernel
theorem dX7_placeCrank_117 : decode cX7_placeCrank 117 = .ok (.invokevirtual 250, 3) := by decide +kernel
theorem dX7_placeCrank_120 : decode cX7_placeCrank 120 = .ok (.iinc 2 1, 3) := by decide +kernel
theorem dX7_placeCrank_123 : decode cX7_placeCrank 123 = .ok (.goto (-40), 3) := by decide +kernel
theorem dX7_placeCrank_126 : decode cX7_placeCrank 126 = .ok (.aload_n 0, 1) := by decide +kernel
theorem dX7_placeCrank_127 : decode cX7_placeCrank 127 = .ok (.getfield 52, 3) := by decide +kernel
theorem dX7_placeCrank_130 : decode cX7_placeCrank 130 = .ok (.aload_n 1, 1) := by decide +kernel
theorem dX7_placeCrank_131 : decode cX7_placeCrank 131 = .ok (.getfield 259, 3) := by decide +kernel
theorem dX7_placeCrank_134 : decode cX7_placeCrank 134 = .ok (.aload_n 1, 1) := by decide +kernel
theorem dX7_placeCrank_135 : decode cX7_placeCrank 135 = .ok (.getfield 275, 3) := by decide +kernel
theorem dX7_placeCrank_138 : decode cX7_placeCrank 138 = .ok (.invokevirtual 271, 3) := by decide +kernel
theorem dX7_placeCrank_141 : decode cX7_placeCrank 141 = .ok (.aload_n 1, 1) := by decide +kernel
theorem dX7_placeCrank_142 : decode cX7_placeCrank 142 = .ok (.getfield 259, 3) := by decide +kernel
theorem dX7_placeCrank_145 : decode cX7_placeCrank 145 = .ok (.aload_n 0, 1) := by decide +kernel
theorem dX7_placeCrank_146 : decode cX7_placeCrank 146 = .ok (.getfield 52, 3) := by decide +kernel
theorem dX7_placeCrank_149 : decode cX7_placeCrank 149 = .ok (.invokevirtual 250, 3) := by decide +kernel
theorem dX7_placeCrank_152 : decode cX7_placeCrank 152 = .ok (.aload_n 1, 1) := by decide +kernel
theorem dX7_placeCrank_153 : decode cX7_placeCrank 153 = .ok (.getfield 194, 3) := by decide +kernel
theorem dX7_placeCrank_156 : decode cX7_placeCrank 156 = .ok (.aload_n 0, 1) := by decide +kernel
theorem dX7_placeCrank_157 : decode cX7_placeCrank 157 = .ok (.getfield 11, 3) := by decide +kernel
theorem dX7_placeCrank_160 : decode cX7_placeCrank 160 = .ok (.aload_n 1, 1) := by decide +kernel
theorem dX7_placeCrank_161 : decode cX7_placeCrank 161 = .ok (.getfield 167, 3) := by decide +kernel
theorem dX7_placeCrank_164 : decode cX7_placeCrank 164 = .ok (.iconst 0, 1) := by decide +kernel
theorem dX7_placeCrank_165 : decode cX7_placeCrank 165 = .ok (.iaload, 1) := by decide +kernel
theorem dX7_placeCrank_166 : decode cX7_placeCrank 166 = .ok (.aaload, 1) := by decide +kernel
theorem dX7_placeCrank_167 : decode cX7_placeCrank 167 = .ok (.getfield 194, 3) := by decide +kernel
theorem dX7_placeCrank_170 : decode cX7_placeCrank 170 = .ok (.invokevirtual 250, 3) := by decide +kernel
theorem dX7_placeCrank_173 : decode cX7_placeCrank 173 = .ok (.aload_n 1, 1) := by decide +kernel
theorem dX7_placeCrank_174 : decode cX7_placeCrank 174 = .ok (.getfield 194, 3) := by decide +kernel
theorem dX7_placeCrank_177 : decode cX7_placeCrank 177 = .ok (.aload_n 1, 1) := by decide +kernel
theorem dX7_placeCrank_178 : decode cX7_placeCrank 178 = .ok (.getfield 234, 3) := by decide +kernel
theorem dX7_placeCrank_181 : decode cX7_placeCrank 181 = .ok (.aload_n 1, 1) := by decide +kernel
theorem dX7_placeCrank_182 : decode cX7_placeCrank 182 = .ok (.getfield 259, 3) := by decide +kernel
theorem dX7_placeCrank_185 : decode cX7_placeCrank 185 = .ok (.invokevirtual 278, 3) := by decide +kernel
theorem dX7_placeCrank_188 : decode cX7_placeCrank 188 = .ok (.aload_n 1, 1) := by decide +kernel
theorem dX7_placeCrank_189 : decode cX7_placeCrank 189 = .ok (.iconst 0, 1) := by decide +kernel
theorem dX7_placeCrank_190 : decode cX7_placeCrank 190 = .ok (.invokestatic 220, 3) := by decide +kernel
theorem dX7_placeCrank_193 : decode cX7_placeCrank 193 = .ok (.ireturn, 1) := by decide +kernel
theorem dX7_placeDyad_0 : decode cX7_placeDyad 0 = .ok (.aload_n 0, 1) := by decide +kernel
theorem dX7_placeDyad_1 : decode cX7_placeDyad 1 = .ok (.getfield 11, 3) := by decide +kernel
theorem dX7_placeDyad_4 : decode cX7_placeDyad 4 = .ok (.aload_n 1, 1) := by decide +kernel
theorem dX7_placeDyad_5 : decode cX7_placeDyad 5 = .ok (.getfield 167, 3) := by decide +kernel
theorem dX7_placeDyad_8 : decode cX7_placeDyad 8 = .ok (.iconst 0, 1) := by decide +kernel
theorem dX7_placeDyad_9 : decode cX7_placeDyad 9 = .ok (.iaload, 1) := by decide +kernel
theorem dX7_placeDyad_10 : decode cX7_placeDyad 10 = .ok (.aaload, 1) := by decide +kernel
theorem dX7_placeDyad_11 : decode cX7_placeDyad 11 = .ok (.getfield 194, 3) := by decide +kernel
theorem dX7_placeDyad_14 : decode cX7_placeDyad 14 = .ok (.astore_n 2, 1) := by decide +kernel
theorem dX7_placeDyad_15 : decode cX7_placeDyad 15 = .ok (.aload_n 0, 1) := by decide +kernel
theorem dX7_placeDyad_16 : decode cX7_placeDyad 16 = .ok (.getfield 48, 3) := by decide +kernel
theorem dX7_placeDyad_19 : decode cX7_placeDyad 19 = .ok (.aload_n 0, 1) := by decide +kernel
theorem dX7_placeDyad_20 : decode cX7_placeDyad 20 = .ok (.getfield 11, 3) := by decide +kernel
theorem dX7_placeDyad_23 : decode cX7_placeDyad 23 = .ok (.aload_n 1, 1) := by decide +kernel
theorem dX7_placeDyad_24 : decode cX7_placeDyad 24 = .ok (.getfield 167, 3) := by decide +kernel
theorem dX7_placeDyad_27 : decode cX7_placeDyad 27 = .ok (.iconst 1, 1) := by decide +kernel
theorem dX7_placeDyad_28 : decode cX7_placeDyad 28 = .ok (.iaload, 1) := by decide +kernel
theorem dX7_placeDyad_29 : decode cX7_placeDyad 29 = .ok (.aaload, 1) := by decide +kernel
theorem dX7_placeDyad_30 : decode cX7_placeDyad 30 = .ok (.getfield 194, 3) := by decide +kernel
theorem dX7_placeDyad_33 : decode cX7_placeDyad 33 = .ok (.aload_n 2, 1) := by decide +kernel
theorem dX7_placeDyad_34 : decode cX7_placeDyad 34 = .ok (.invokevirtual 282, 3) := by decide +kernel
theorem dX7_placeDyad_37 : decode cX7_placeDyad 37 = .ok (.aload_n 0, 1) := by decide +kernel
theorem dX7_placeDyad_38 : decode cX7_placeDyad 38 = .ok (.getfield 62, 3) := by decide +kernel
theorem dX7_placeDyad_41 : decode cX7_placeDyad 41 = .ok (.aload_n 0, 1) := by decide +kernel
theorem dX7_placeDyad_42 : decode cX7_placeDyad 42 = .ok (.getfield 48, 3) := by decide +kernel
theorem dX7_placeDyad_45 : decode cX7_placeDyad 45 = .ok (.invokevirtual 285, 3) := by decide +kernel
theorem dX7_placeDyad_48 : decode cX7_placeDyad 48 = .ok (.aload_n 0, 1) := by decide +kernel
theorem dX7_placeDyad_49 : decode cX7_placeDyad 49 = .ok (.getfield 65, 3) := by decide +kernel
theorem dX7_placeDyad_52 : decode cX7_placeDyad 52 = .ok (.aload_n 0, 1) := by decide +kernel
theorem dX7_placeDyad_53 : decode cX7_placeDyad 53 = .ok (.getfield 62, 3) := by decide +kernel
theorem dX7_placeDyad_56 : decode cX7_placeDyad 56 = .ok (.aload_n 1, 1) := by decide +kernel
theorem dX7_placeDyad_57 : decode cX7_placeDyad 57 = .ok (.getfield 234, 3) := by decide +kernel
theorem dX7_placeDyad_60 : decode cX7_placeDyad 60 = .ok (.invokevirtual 288, 3) := by decide +kernel
theorem dX7_placeDyad_63 : decode cX7_placeDyad 63 = .ok (.aload_n 0, 1) := by decide +kernel
theorem dX7_placeDyad_64 : decode cX7_placeDyad 64 = .ok (.getfield 65, 3) := by decide +kernel
theorem dX7_placeDyad_67 : decode cX7_placeDyad 67 = .ok (.aload_n 0, 1) := by decide +kernel
theorem dX7_placeDyad_68 : decode cX7_placeDyad 68 = .ok (.getfield 65, 3) := by decide +kernel
theorem dX7_placeDyad_71 : decode cX7_placeDyad 71 = .ok (.aload_n 1, 1) := by decide +kernel
theorem dX7_placeDyad_72 : decode cX7_placeDyad 72 = .ok (.getfield 244, 3) := by decide +kernel
theorem dX7_placeDyad_75 : decode cX7_placeDyad 75 = .ok (.invokevirtual 292, 3) := by decide +kernel
theorem dX7_placeDyad_78 : decode cX7_placeDyad 78 = .ok (.aload_n 0, 1) := by decide +kernel
theorem dX7_placeDyad_79 : decode cX7_placeDyad 79 = .ok (.getfield 65, 3) := by decide +kernel
theorem dX7_placeDyad_82 : decode cX7_placeDyad 82 = .ok (.ldc2_w 294, 3) := by decide +kernel
theorem dX7_placeDyad_85 : decode cX7_placeDyad 85 = .ok (.invokevirtual 296, 3) := by decide +kernel
theorem dX7_placeDyad_88 : decode cX7_placeDyad 88 = .ok (.aload_n 0, 1) := by decide +kernel
theorem dX7_placeDyad_89 : decode cX7_placeDyad 89 = .ok (.getfield 68, 3) := by decide +kernel
theorem dX7_placeDyad_92 : decode cX7_placeDyad 92 = .ok (.aload_n 0, 1) := by decide +kernel
theorem dX7_placeDyad_93 : decode cX7_placeDyad 93 = .ok (.getfield 65, 3) := by decide +kernel
theorem dX7_placeDyad_96 : decode cX7_placeDyad 96 = .ok (.aload_n 0, 1) := by decide +kernel
theorem dX7_placeDyad_97 : decode cX7_placeDyad 97 = .ok (.getfield 62, 3) := by decide +kernel
theorem dX7_placeDyad_100 : decode cX7_placeDyad 100 = .ok (.invokevirtual 300, 3) := by decide +kernel
theorem dX7_placeDyad_103 : decode cX7_placeDyad 103 = .ok (.aload_n 0, 1) := by decide +kernel
theorem dX7_placeDyad_104 : decode cX7_placeDyad 104 = .ok (.getfield 71, 3) := by decide +kernel
theorem dX7_placeDyad_107 : decode cX7_placeDyad 107 = .ok (.aload_n 1, 1) := by decide +kernel
theorem dX7_placeDyad_108 : decode cX7_placeDyad 108 = .ok (.getfield 234, 3) := by decide +kernel
theorem dX7_placeDyad_111 : decode cX7_placeDyad 111 = .ok (.invokevirtual 237, 3) := by decide +kernel
theorem dX7_placeDyad_114 : decode cX7_placeDyad 114 = .ok (.aload_n 0, 1) := by decide +kernel
theorem dX7_placeDyad_115 : decode cX7_placeDyad 115 = .ok (.getfield 71, 3) := by decide +kernel
theorem dX7_placeDyad_118 : decode cX7_placeDyad 118 = .ok (.iconst (-1), 1) := by decide +kernel
theorem dX7_placeDyad_119 : decode cX7_placeDyad 119 = .ok (.aload_n 0, 1) := by decide +kernel
theorem dX7_placeDyad_120 : decode cX7_placeDyad 120 = .ok (.getfield 65, 3) := by decide +kernel
theorem dX7_placeDyad_123 : decode cX7_placeDyad 123 = .ok (.aload_n 0, 1) := by decide +kernel
theorem dX7_placeDyad_124 : decode cX7_placeDyad 124 = .ok (.getfield 68, 3) := by decide +kernel
theorem dX7_placeDyad_127 : decode cX7_placeDyad 127 = .ok (.invokevirtual 303, 3) := by decide +kernel
theorem dX7_placeDyad_130 : decode cX7_placeDyad 130 = .ok (.aload_n 0, 1) := by decide +kernel
theorem dX7_placeDyad_131 : decode cX7_placeDyad 131 = .ok (.invokevirtual 307, 3) := by decide +kernel
theorem dX7_placeDyad_134 : decode cX7_placeDyad 134 = .ok (.istore_n 3, 1) := by decide +kernel
theorem dX7_placeDyad_135 : decode cX7_placeDyad 135 = .ok (.iload_n 3, 1) := by decide +kernel
theorem dX7_placeDyad_136 : decode cX7_placeDyad 136 = .ok (.iconst 3, 1) := by decide +kernel
theorem dX7_placeDyad_137 : decode cX7_placeDyad 137 = .ok (.if_icmp .ne 5, 3) := by decide +kernel
theorem dX7_placeDyad_140 : decode cX7_placeDyad 140 = .ok (.iconst 3, 1) := by decide +kernel
theorem dX7_placeDyad_141 : decode cX7_placeDyad 141 = .ok (.ireturn, 1) := by decide +kernel
theorem dX7_placeDyad_142 : decode cX7_placeDyad 142 = .ok (.aload_n 0, 1) := by decide +kernel
theorem dX7_placeDyad_143 : decode cX7_placeDyad 143 = .ok (.getfield 71, 3) := by decide +kernel
theorem dX7_placeDyad_146 : decode cX7_placeDyad 146 = .ok (.aload_n 0, 1) := by decide +kernel
theorem dX7_placeDyad_147 : decode cX7_placeDyad 147 = .ok (.getfield 71, 3) := by decide +kernel
theorem dX7_placeDyad_150 : decode cX7_placeDyad 150 = .ok (.aload_n 0, 1) := by decide +kernel
theorem dX7_placeDyad_151 : decode cX7_placeDyad 151 = .ok (.getfield 62, 3) := by decide +kernel
theorem dX7_placeDyad_154 : decode cX7_placeDyad 154 = .ok (.invokevirtual 300, 3) := by decide +kernel
theorem dX7_placeDyad_157 : decode cX7_placeDyad 157 = .ok (.aload_n 0, 1) := by decide +kernel
theorem dX7_placeDyad_158 : decode cX7_placeDyad 158 = .ok (.getfield 71, 3) := by decide +kernel
theorem dX7_placeDyad_161 : decode cX7_placeDyad 161 = .ok (.invokevirtual 310, 3) := by decide +kernel
theorem dX7_placeDyad_164 : decode cX7_placeDyad 164 = .ok (.aload_n 1, 1) := by decide +kernel
theorem dX7_placeDyad_165 : decode cX7_placeDyad 165 = .ok (.getfield 194, 3) := by decide +kernel
theorem dX7_placeDyad_168 : decode cX7_placeDyad 168 = .ok (.aload_n 2, 1) := by decide +kernel
theorem dX7_placeDyad_169 : decode cX7_placeDyad 169 = .ok (.invokevirtual 250, 3) := by decide +kernel
theorem dX7_placeDyad_172 : decode cX7_placeDyad 172 = .ok (.aload_n 1, 1) := by decide +kernel
theorem dX7_placeDyad_173 : decode cX7_placeDyad 173 = .ok (.getfield 194, 3) := by decide +kernel
theorem dX7_placeDyad_176 : decode cX7_placeDyad 176 = .ok (.aload_n 0, 1) := by decide +kernel
theorem dX7_placeDyad_177 : decode cX7_placeDyad 177 = .ok (.getfield 68, 3) := by decide +kernel
theorem dX7_placeDyad_180 : decode cX7_placeDyad 180 = .ok (.aload_n 0, 1) := by decide +kernel
theorem dX7_placeDyad_181 : decode cX7_placeDyad 181 = .ok (.getfield 48, 3) := by decide +kernel
theorem dX7_placeDyad_184 : decode cX7_placeDyad 184 = .ok (.invokevirtual 278, 3) := by decide +kernel
theorem dX7_placeDyad_187 : decode cX7_placeDyad 187 = .ok (.aload_n 1, 1) := by decide +kernel
theorem dX7_placeDyad_188 : decode cX7_placeDyad 188 = .ok (.getfield 194, 3) := by decide +kernel
theorem dX7_placeDyad_191 : decode cX7_placeDyad 191 = .ok (.aload_n 1, 1) := by decide +kernel
theorem dX7_placeDyad_192 : decode cX7_placeDyad 192 = .ok (.aload_n 0, 1) := by decide +kernel
theorem dX7_placeDyad_193 : decode cX7_placeDyad 193 = .ok (.getfield 84, 3) := by decide +kernel
theorem dX7_placeDyad_196 : decode cX7_placeDyad 196 = .ok (.invokevirtual 313, 3) := by decide +kernel
theorem dX7_placeDyad_199 : decode cX7_placeDyad 199 = .ok (.aload_n 0, 1) := by decide +kernel
theorem dX7_placeDyad_200 : decode cX7_placeDyad 200 = .ok (.getfield 71, 3) := by decide +kernel
theorem dX7_placeDyad_203 : decode cX7_placeDyad 203 = .ok (.aload_n 0, 1) := by decide +kernel
theorem dX7_placeDyad_204 : decode cX7_placeDyad 204 = .ok (.getfield 48, 3) := by decide +kernel
theorem dX7_placeDyad_207 : decode cX7_placeDyad 207 = .ok (.invokevirtual 316, 3) := by decide +kernel
theorem dX7_placeDyad_210 : decode cX7_placeDyad 210 = .ok (.aload_n 1, 1) := by decide +kernel
theorem dX7_placeDyad_211 : decode cX7_placeDyad 211 = .ok (.iload_n 3, 1) := by decide +kernel
theorem dX7_placeDyad_212 : decode cX7_placeDyad 212 = .ok (.invokestatic 220, 3) := by decide +kernel
theorem dX7_placeDyad_215 : decode cX7_placeDyad 215 = .ok (.ireturn, 1) := by decide +kernel
theorem dX7_placeSlide_0 : decode cX7_placeSlide 0 = .ok (.aload_n 0, 1) := by decide +kernel
theorem dX7_placeSlide_1 : decode cX7_placeSlide 1 = .ok (.getfield 11, 3) := by decide +kernel
theorem dX7_placeSlide_4 : decode cX7_placeSlide 4 = .ok (.aload_n 1, 1) := by decide +kernel
theorem dX7_placeSlide_5 : decode cX7_placeSlide 5 = .ok (.getfield 167, 3) := by decide +kernel
theorem dX7_placeSlide_8 : decode cX7_placeSlide 8 = .ok (.iconst 1, 1) := by decide +kernel
theorem dX7_placeSlide_9 : decode cX7_placeSlide 9 = .ok (.iaload, 1) := by decide +kernel
theorem dX7_placeSlide_10 : decode cX7_placeSlide 10 = .ok (.aaload, 1) := by decide +kernel
theorem dX7_placeSlide_11 : decode cX7_placeSlide 11 = .ok (.getfield 194, 3) := by decide +kernel
theorem dX7_placeSlide_14 : decode cX7_placeSlide 14 = .ok (.astore_n 2, 1) := by decide +kernel
theorem dX7_placeSlide_15 : decode cX7_placeSlide 15 = .ok (.aload_n 0, 1) := by decide +kernel
theorem dX7_placeSlide_16 : decode cX7_placeSlide 16 = .ok (.getfield 52, 3) := by decide +kernel
theorem dX7_placeSlide_19 : decode cX7_placeSlide 19 = .ok (.aload_n 0, 1) := by decide +kernel
theorem dX7_placeSlide_20 : decode cX7_placeSlide 20 = .ok (.getfield 11, 3) := by decide +kernel
theorem dX7_placeSlide_23 : decode cX7_placeSlide 23 = .ok (.aload_n 1, 1) := by decide +kernel
theorem dX7_placeSlide_24 : decode cX7_placeSlide 24 = .ok (.getfield 167, 3) := by decide +kernel
theorem dX7_placeSlide_27 : decode cX7_placeSlide 27 = .ok (.iconst 2, 1) := by decide +kernel
theorem dX7_placeSlide_28 : decode cX7_placeSlide 28 = .ok (.iaload, 1) := by decide +kernel
theorem dX7_placeSlide_29 : decode cX7_placeSlide 29 = .ok (.aaload, 1) := by decide +kernel
theorem dX7_placeSlide_30 : decode cX7_placeSlide 30 = .ok (.getfield 194, 3) := by decide +kernel
theorem dX7_placeSlide_33 : decode cX7_placeSlide 33 = .ok (.aload_n 2, 1) := by decide +kernel
theorem dX7_placeSlide_34 : decode cX7_placeSlide 34 = .ok (.invokevirtual 282, 3) := by decide +kernel
theorem dX7_placeSlide_37 : decode cX7_placeSlide 37 = .ok (.aload_n 0, 1) := by decide +kernel
theorem dX7_placeSlide_38 : decode cX7_placeSlide 38 = .ok (.getfield 62, 3) := by decide +kernel
theorem dX7_placeSlide_41 : decode cX7_placeSlide 41 = .ok (.aload_n 0, 1) := by decide +kernel
theorem dX7_placeSlide_42 : decode cX7_placeSlide 42 = .ok (.getfield 52, 3) := by decide +kernel
theorem dX7_placeSlide_45 : decode cX7_placeSlide 45 = .ok (.invokevirtual 285, 3) := by decide +kernel
theorem dX7_placeSlide_48 : decode cX7_placeSlide 48 = .ok (.aload_n 0, 1) := by decide +kernel
theorem dX7_placeSlide_49 : decode cX7_placeSlide 49 = .ok (.getfield 48, 3) := by decide +kernel
theorem dX7_placeSlide_52 : decode cX7_placeSlide 52 = .ok (.aload_n 2, 1) := by decide +kernel
theorem dX7_placeSlide_53 : decode cX7_placeSlide 53 = .ok (.aload_n 0, 1) := by decide +kernel
theorem dX7_placeSlide_54 : decode cX7_placeSlide 54 = .ok (.getfield 11, 3) := by decide +kernel
theorem dX7_placeSlide_57 : decode cX7_placeSlide 57 = .ok (.aload_n 1, 1) := by decide +kernel
theorem dX7_placeSlide_58 : decode cX7_placeSlide 58 = .ok (.getfield 167, 3) := by decide +kernel
theorem dX7_placeSlide_61 : decode cX7_placeSlide 61 = .ok (.iconst 0, 1) := by decide +kernel
theorem dX7_placeSlide_62 : decode cX7_placeSlide 62 = .ok (.iaload, 1) := by decide +kernel
theorem dX7_placeSlide_63 : decode cX7_placeSlide 63 = .ok (.aaload, 1) := by decide +kernel
theorem dX7_placeSlide_64 : decode cX7_placeSlide 64 = .ok (.getfield 194, 3) := by decide +kernel
theorem dX7_placeSlide_67 : decode cX7_placeSlide 67 = .ok (.invokevirtual 282, 3) := by decide +kernel
theorem dX7_placeSlide_70 : decode cX7_placeSlide 70 = .ok (.aload_n 0, 1) := by decide +kernel
theorem dX7_placeSlide_71 : decode cX7_placeSlide 71 = .ok (.getfield 65, 3) := by decide +kernel
theorem dX7_placeSlide_74 : decode cX7_placeSlide 74 = .ok (.aload_n 0, 1) := by decide +kernel
theorem dX7_placeSlide_75 : decode cX7_placeSlide 75 = .ok (.getfield 48, 3) := by decide +kernel
theorem dX7_placeSlide_78 : decode cX7_placeSlide 78 = .ok (.aload_n 0, 1) := by decide +kernel
theorem dX7_placeSlide_79 : decode cX7_placeSlide 79 = .ok (.getfield 52, 3) := by decide +kernel
theorem dX7_placeSlide_82 : decode cX7_placeSlide 82 = .ok (.invokevirtual 320, 3) := by decide +kernel
theorem dX7_placeSlide_85 : decode cX7_placeSlide 85 = .ok (.aload_n 0, 1) := by decide +kernel
theorem dX7_placeSlide_86 : decode cX7_placeSlide 86 = .ok (.getfield 68, 3) := by decide +kernel
theorem dX7_placeSlide_89 : decode cX7_placeSlide 89 = .ok (.aload_n 0, 1) := by decide +kernel
theorem dX7_placeSlide_90 : decode cX7_placeSlide 90 = .ok (.getfield 65, 3) := by decide +kernel
theorem dX7_placeSlide_93 : decode cX7_placeSlide 93 = .ok (.invokevirtual 256, 3) := by decide +kernel
theorem dX7_placeSlide_96 : decode cX7_placeSlide 96 = .ok (.aload_n 0, 1) := by decide +kernel
theorem dX7_placeSlide_97 : decode cX7_placeSlide 97 = .ok (.getfield 68, 3) := by decide +kernel
theorem dX7_placeSlide_100 : decode cX7_placeSlide 100 = .ok (.aload_n 0, 1) := by decide +kernel
theorem dX7_placeSlide_101 : decode cX7_placeSlide 101 = .ok (.getfield 68, 3) := by decide +kernel
theorem dX7_placeSlide_104 : decode cX7_placeSlide 104 = .ok (.aload_n 0, 1) := by decide +kernel
theorem dX7_placeSlide_105 : decode cX7_placeSlide 105 = .ok (.getfield 62, 3) := by decide +kernel
theorem dX7_placeSlide_108 : decode cX7_placeSlide 108 = .ok (.invokevirtual 300, 3) := by decide +kernel
theorem dX7_placeSlide_111 : decode cX7_placeSlide 111 = .ok (.aload_n 0, 1) := by decide +kernel
theorem dX7_placeSlide_112 : decode cX7_placeSlide 112 = .ok (.getfield 71, 3) := by decide +kernel
theorem dX7_placeSlide_115 : decode cX7_placeSlide 115 = .ok (.aload_n 0, 1) := by decide +kernel
theorem dX7_placeSlide_116 : decode cX7_placeSlide 116 = .ok (.getfield 48, 3) := by decide +kernel
theorem dX7_placeSlide_119 : decode cX7_placeSlide 119 = .ok (.invokevirtual 285, 3) := by decide +kernel
theorem dX7_placeSlide_122 : decode cX7_placeSlide 122 = .ok (.aload_n 0, 1) := by decide +kernel
theorem dX7_placeSlide_123 : decode cX7_placeSlide 123 = .ok (.getfield 71, 3) := by decide +kernel
theorem dX7_placeSlide_126 : decode cX7_placeSlide 126 = .ok (.iconst 1, 1) := by decide +kernel
theorem dX7_placeSlide_127 : decode cX7_placeSlide 127 = .ok (.aload_n 0, 1) := by decide +kernel
theorem dX7_placeSlide_128 : decode cX7_placeSlide 128 = .ok (.getfield 65, 3) := by decide +kernel
theorem dX7_placeSlide_131 : decode cX7_placeSlide 131 = .ok (.aload_n 0, 1) := by decide +kernel
theorem dX7_placeSlide_132 : decode cX7_placeSlide 132 = .ok (.getfield 68, 3) := by decide +kernel
theorem dX7_placeSlide_135 : decode cX7_placeSlide 135 = .ok (.invokevirtual 303, 3) := by decide +kernel
theorem dX7_placeSlide_138 : decode cX7_placeSlide 138 = .ok (.aload_n 0, 1) := by decide +kernel
theorem dX7_placeSlide_139 : decode cX7_placeSlide 139 = .ok (.getfield 71, 3) := by decide +kernel
theorem dX7_placeSlide_142 : decode cX7_placeSlide 142 = .ok (.aload_n 1, 1) := by decide +kernel
theorem dX7_placeSlide_143 : decode cX7_placeSlide 143 = .ok (.getfield 234, 3) := by decide +kernel
theorem dX7_placeSlide_146 : decode cX7_placeSlide 146 = .ok (.aload_n 0, 1) := by decide +kernel
theorem dX7_placeSlide_147 : decode cX7_placeSlide 147 = .ok (.getfield 71, 3) := by decide +kernel
theorem dX7_placeSlide_150 : decode cX7_placeSlide 150 = .ok (.invokevirtual 292, 3) := by decide +kernel
theorem dX7_placeSlide_153 : decode cX7_placeSlide 153 = .ok (.aload_n 0, 1) := by decide +kernel
theorem dX7_placeSlide_154 : decode cX7_placeSlide 154 = .ok (.invokevirtual 307, 3) := by decide +kernel
theorem dX7_placeSlide_157 : decode cX7_placeSlide 157 = .ok (.istore_n 3, 1) := by decide +kernel
theorem dX7_placeSlide_158 : decode cX7_placeSlide 158 = .ok (.iload_n 3, 1) := by decide +kernel
theorem dX7_placeSlide_159 : decode cX7_placeSlide 159 = .ok (.iconst 3, 1) := by decide +kernel
theorem dX7_placeSlide_160 : decode cX7_placeSlide 160 = .ok (.if_icmp .ne 5, 3) := by decide +kernel
theorem dX7_placeSlide_163 : decode cX7_placeSlide 163 = .ok (.iconst 3, 1) := by decide +kernel
theorem dX7_placeSlide_164 : decode cX7_placeSlide 164 = .ok (.ireturn, 1) := by decide +kernel
theorem dX7_placeSlide_165 : decode cX7_placeSlide 165 = .ok (.aload_n 0, 1) := by decide +kernel
theorem dX7_placeSlide_166 : decode cX7_placeSlide 166 = .ok (.getfield 71, 3) := by decide +kernel
theorem dX7_placeSlide_169 : decode cX7_placeSlide 169 = .ok (.aload_n 0, 1) := by decide +kernel
theorem dX7_placeSlide_170 : decode cX7_placeSlide 170 = .ok (.getfield 71, 3) := by decide +kernel
theorem dX7_placeSlide_173 : decode cX7_placeSlide 173 = .ok (.aload_n 0, 1) := by decide +kernel
theorem dX7_placeSlide_174 : decode cX7_placeSlide 174 = .ok (.getfield 62, 3) := by decide +kernel
theorem dX7_placeSlide_177 : decode cX7_placeSlide 177 = .ok (.invokevirtual 300, 3) := by decide +kernel
theorem dX7_placeSlide_180 : decode cX7_placeSlide 180 = .ok (.aload_n 0, 1) := by decide +kernel
theorem dX7_placeSlide_181 : decode cX7_placeSlide 181 = .ok (.getfield 71, 3) := by decide +kernel
theorem dX7_placeSlide_184 : decode cX7_placeSlide 184 = .ok (.invokevirtual 310, 3) := by decide +kernel
theorem dX7_placeSlide_187 : decode cX7_placeSlide 187 = .ok (.aload_n 1, 1) := by decide +kernel
theorem dX7_placeSlide_188 : decode cX7_placeSlide 188 = .ok (.aload_n 0, 1) := by decide +kernel
theorem dX7_placeSlide_189 : decode cX7_placeSlide 189 = .ok (.getfield 84, 3) := by decide +kernel
theorem dX7_placeSlide_192 : decode cX7_placeSlide 192 = .ok (.invokevirtual 313, 3) := by decide +kernel
theorem dX7_placeSlide_195 : decode cX7_placeSlide 195 = .ok (.ifCond .le 21, 3) := by decide +kernel
theorem dX7_placeSlide_198 : decode cX7_placeSlide 198 = .ok (.aload_n 0, 1) := by decide +kernel
theorem dX7_placeSlide_199 : decode cX7_placeSlide 199 = .ok (.getfield 68, 3) := by decide +kernel
theorem dX7_placeSlide_202 : decode cX7_placeSlide 202 = .ok (.aload_n 0, 1) := by decide +kernel
theorem dX7_placeSlide_203 : decode cX7_placeSlide 203 = .ok (.getfield 68, 3) := by decide +kernel
theorem dX7_placeSlide_206 : decode cX7_placeSlide 206 = .ok (.aload_n 0, 1) := by decide +kernel
theorem dX7_placeSlide_207 : decode cX7_placeSlide 207 = .ok (.getfield 71, 3) := by decide +kernel
theorem dX7_placeSlide_210 : decode cX7_placeSlide 210 = .ok (.invokevirtual 288, 3) := by decide +kernel
theorem dX7_placeSlide_213 : decode cX7_placeSlide 213 = .ok (.goto 18, 3) := by decide +kernel
theorem dX7_placeSlide_216 : decode cX7_placeSlide 216 = .ok (.aload_n 0, 1) := by decide +kernel
theorem dX7_placeSlide_217 : decode cX7_placeSlide 217 = .ok (.getfield 68, 3) := by decide +kernel
theorem dX7_placeSlide_220 : decode cX7_placeSlide 220 = .ok (.aload_n 0, 1) := by decide +kernel
theorem dX7_placeSlide_221 : decode cX7_placeSlide 221 = .ok (.getfield 68, 3) := by decide +kernel
theorem dX7_placeSlide_224 : decode cX7_placeSlide 224 = .ok (.aload_n 0, 1) := by decide +kernel
theorem dX7_placeSlide_225 : decode cX7_placeSlide 225 = .ok (.getfield 71, 3) := by decide +kernel
theorem dX7_placeSlide_228 : decode cX7_placeSlide 228 = .ok (.invokevirtual 292, 3) := by decide +kernel
theorem dX7_placeSlide_231 : decode cX7_placeSlide 231 = .ok (.aload_n 1, 1) := by decide +kernel
theorem dX7_placeSlide_232 : decode cX7_placeSlide 232 = .ok (.getfield 194, 3) := by decide +kernel
theorem dX7_placeSlide_235 : decode cX7_placeSlide 235 = .ok (.aload_n 2, 1) := by decide +kernel
theorem dX7_placeSlide_236 : decode cX7_placeSlide 236 = .ok (.invokevirtual 250, 3) := by decide +kernel
theorem dX7_placeSlide_239 : decode cX7_placeSlide 239 = .ok (.aload_n 1, 1) := by decide +kernel
theorem dX7_placeSlide_240 : decode cX7_placeSlide 240 = .ok (.getfield 194, 3) := by decide +kernel
theorem dX7_placeSlide_243 : decode cX7_placeSlide 243 = .ok (.aload_n 0, 1) := by decide +kernel
theorem dX7_placeSlide_244 : decode cX7_placeSlide 244 = .ok (.getfield 68, 3) := by decide +kernel
theorem dX7_placeSlide_247 : decode cX7_placeSlide 247 = .ok (.aload_n 0, 1) := by decide +kernel
theorem dX7_placeSlide_248 : decode cX7_placeSlide 248 = .ok (.getfield 52, 3) := by decide +kernel
theorem dX7_placeSlide_251 : decode cX7_placeSlide 251 = .ok (.invokevirtual 278, 3) := by decide +kernel
theorem dX7_placeSlide_254 : decode cX7_placeSlide 254 = .ok (.aload_n 1, 1) := by decide +kernel
theorem dX7_placeSlide_255 : decode cX7_placeSlide 255 = .ok (.iload_n 3, 1) := by decide +kernel
theorem dX7_placeSlide_256 : decode cX7_placeSlide 256 = .ok (.invokestatic 220, 3) := by decide +kernel
theorem dX7_placeSlide_259 : decode cX7_placeSlide 259 = .ok (.ireturn, 1) := by decide +kernel
theorem dX7_judgeRest_0 : decode cX7_judgeRest 0 = .ok (.aload_n 0, 1) := by decide +kernel
theorem dX7_judgeRest_1 : decode cX7_judgeRest 1 = .ok (.getfield 71, 3) := by decide +kernel
theorem dX7_judgeRest_4 : decode cX7_judgeRest 4 = .ok (.getfield 323, 3) := by decide +kernel
theorem dX7_judgeRest_7 : decode cX7_judgeRest 7 = .ok (.ifCond .ne 15, 3) := by decide +kernel
theorem dX7_judgeRest_10 : decode cX7_judgeRest 10 = .ok (.aload_n 0, 1) := by decide +kernel
theorem dX7_judgeRest_11 : decode cX7_judgeRest 11 = .ok (.getfield 71, 3) := by decide +kernel
theorem dX7_judgeRest_14 : decode cX7_judgeRest 14 = .ok (.getfield 326, 3) := by decide +kernel
theorem dX7_judgeRest_17 : decode cX7_judgeRest 17 = .ok (.lconst 0, 1) := by decide +kernel
theorem dX7_judgeRest_18 : decode cX7_judgeRest 18 = .ok (.lcmp, 1) := by decide +kernel
theorem dX7_judgeRest_19 : decode cX7_judgeRest 19 = .ok (.ifCond .lt 5, 3) := by decide +kernel
theorem dX7_judgeRest_22 : decode cX7_judgeRest 22 = .ok (.iconst 0, 1) := by decide +kernel
theorem dX7_judgeRest_23 : decode cX7_judgeRest 23 = .ok (.ireturn, 1) := by decide +kernel
theorem dX7_judgeRest_24 : decode cX7_judgeRest 24 = .ok (.aload_n 0, 1) := by decide +kernel
theorem dX7_judgeRest_25 : decode cX7_judgeRest 25 = .ok (.getfield 71, 3) := by decide +kernel
theorem dX7_judgeRest_28 : decode cX7_judgeRest 28 = .ok (.getfield 329, 3) := by decide +kernel
theorem dX7_judgeRest_31 : decode cX7_judgeRest 31 = .ok (.lconst 0, 1) := by decide +kernel
theorem dX7_judgeRest_32 : decode cX7_judgeRest 32 = .ok (.lcmp, 1) := by decide +kernel
theorem dX7_judgeRest_33 : decode cX7_judgeRest 33 = .ok (.ifCond .ge 5, 3) := by decide +kernel
theorem dX7_judgeRest_36 : decode cX7_judgeRest 36 = .ok (.iconst 3, 1) := by decide +kernel
theorem dX7_judgeRest_37 : decode cX7_judgeRest 37 = .ok (.ireturn, 1) := by decide +kernel
theorem dX7_judgeRest_38 : decode cX7_judgeRest 38 = .ok (.aload_n 0, 1) := by decide +kernel
theorem dX7_judgeRest_39 : decode cX7_judgeRest 39 = .ok (.getfield 71, 3) := by decide +kernel
theorem dX7_judgeRest_42 : decode cX7_judgeRest 42 = .ok (.lconst 0, 1) := by decide +kernel
theorem dX7_judgeRest_43 : decode cX7_judgeRest 43 = .ok (.aload_n 0, 1) := by decide +kernel
theorem dX7_judgeRest_44 : decode cX7_judgeRest 44 = .ok (.getfield 71, 3) := by decide +kernel
theorem dX7_judgeRest_47 : decode cX7_judgeRest 47 = .ok (.getfield 329, 3) := by decide +kernel
theorem dX7_judgeRest_50 : decode cX7_judgeRest 50 = .ok (.invokevirtual 38, 3) := by decide +kernel
theorem dX7_judgeRest_53 : decode cX7_judgeRest 53 = .ok (.iconst 1, 1) := by decide +kernel
theorem dX7_judgeRest_54 : decode cX7_judgeRest 54 = .ok (.ireturn, 1) := by decide +kernel
theorem dX7_span_0 : decode cX7_span 0 = .ok (.aload_n 0, 1) := by decide +kernel
theorem dX7_span_1 : decode cX7_span 1 = .ok (.getfield 48, 3) := by decide +kernel
theorem dX7_span_4 : decode cX7_span 4 = .ok (.aload 4, 2) := by decide +kernel
theorem dX7_span_6 : decode cX7_span 6 = .ok (.aload_n 3, 1) := by decide +kernel
theorem dX7_span_7 : decode cX7_span 7 = .ok (.invokevirtual 282, 3) := by decide +kernel
theorem dX7_span_10 : decode cX7_span 10 = .ok (.aload_n 2, 1) := by decide +kernel
theorem dX7_span_11 : decode cX7_span 11 = .ok (.aload_n 3, 1) := by decide +kernel
theorem dX7_span_12 : decode cX7_span 12 = .ok (.invokevirtual 250, 3) := by decide +kernel
theorem dX7_span_15 : decode cX7_span 15 = .ok (.aload_n 2, 1) := by decide +kernel
theorem dX7_span_16 : decode cX7_span 16 = .ok (.aload_n 1, 1) := by decide +kernel
theorem dX7_span_17 : decode cX7_span 17 = .ok (.getfield 234, 3) := by decide +kernel
theorem dX7_span_20 : decode cX7_span 20 = .ok (.aload_n 0, 1) := by decide +kernel
theorem dX7_span_21 : decode cX7_span 21 = .ok (.getfield 48, 3) := by decide +kernel
theorem dX7_span_24 : decode cX7_span 24 = .ok (.invokevirtual 278, 3) := by decide +kernel
theorem dX7_span_27 : decode cX7_span 27 = .ok (.aload_n 2, 1) := by decide +kernel
theorem dX7_span_28 : decode cX7_span 28 = .ok (.iconst 1, 1) := by decide +kernel
theorem dX7_span_29 : decode cX7_span 29 = .ok (.aload_n 1, 1) := by decide +kernel
theorem dX7_span_30 : decode cX7_span 30 = .ok (.getfield 244, 3) := by decide +kernel
theorem dX7_span_33 : decode cX7_span 33 = .ok (.aload_n 0, 1) := by decide +kernel
theorem dX7_span_34 : decode cX7_span 34 = .ok (.getfield 48, 3) := by decide +kernel
theorem dX7_span_37 : decode cX7_span 37 = .ok (.invokevirtual 316, 3) := by decide +kernel
theorem dX7_span_40 : decode cX7_span 40 = .ok (.return_, 1) := by decide +kernel
theorem dX7_placeCross_0 : decode cX7_placeCross 0 = .ok (.aload_n 0, 1) := by decide +kernel
theorem dX7_placeCross_1 : decode cX7_placeCross 1 = .ok (.getfield 11, 3) := by decide +kernel
theorem dX7_placeCross_4 : decode cX7_placeCross 4 = .ok (.aload_n 1, 1) := by decide +kernel
theorem dX7_placeCross_5 : decode cX7_placeCross 5 = .ok (.getfield 167, 3) := by decide +kernel
theorem dX7_placeCross_8 : decode cX7_placeCross 8 = .ok (.iconst 0, 1) := by decide +kernel
theorem dX7_placeCross_9 : decode cX7_placeCross 9 = .ok (.iaload, 1) := by decide +kernel
theorem dX7_placeCross_10 : decode cX7_placeCross 10 = .ok (.aaload, 1) := by decide +kernel
theorem dX7_placeCross_11 : decode cX7_placeCross 11 = .ok (.getfield 194, 3) := by decide +kernel
theorem dX7_placeCross_14 : decode cX7_placeCross 14 = .ok (.astore_n 2, 1) := by decide +kernel
theorem dX7_placeCross_15 : decode cX7_placeCross 15 = .ok (.aload_n 0, 1) := by decide +kernel
theorem dX7_placeCross_16 : decode cX7_placeCross 16 = .ok (.getfield 11, 3) := by decide +kernel
theorem dX7_placeCross_19 : decode cX7_placeCross 19 = .ok (.aload_n 1, 1) := by decide +kernel
theorem dX7_placeCross_20 : decode cX7_placeCross 20 = .ok (.getfield 167, 3) := by decide +kernel
theorem dX7_placeCross_23 : decode cX7_placeCross 23 = .ok (.iconst 2, 1) := by decide +kernel
theorem dX7_placeCross_24 : decode cX7_placeCross 24 = .ok (.iaload, 1) := by decide +kernel
theorem dX7_placeCross_25 : decode cX7_placeCross 25 = .ok (.aaload, 1) := by decide +kernel
theorem dX7_placeCross_26 : decode cX7_placeCross 26 = .ok (.getfield 194, 3) := by decide +kernel
theorem dX7_placeCross_29 : decode cX7_placeCross 29 = .ok (.astore_n 3, 1) := by decide +kernel
theorem dX7_placeCross_30 : decode cX7_placeCross 30 = .ok (.aload_n 0, 1) := by decide +kernel
theorem dX7_placeCross_31 : decode cX7_placeCross 31 = .ok (.getfield 48, 3) := by decide +kernel
theorem dX7_placeCross_34 : decode cX7_placeCross 34 = .ok (.aload_n 0, 1) := by decide +kernel
theorem dX7_placeCross_35 : decode cX7_placeCross 35 = .ok (.getfield 11, 3) := by decide +kernel
theorem dX7_placeCross_38 : decode cX7_placeCross 38 = .ok (.aload_n 1, 1) := by decide +kernel
theorem dX7_placeCross_39 : decode cX7_placeCross 39 = .ok (.getfield 167, 3) := by decide +kernel
theorem dX7_placeCross_42 : decode cX7_placeCross 42 = .ok (.iconst 1, 1) := by decide +kernel
theorem dX7_placeCross_43 : decode cX7_placeCross 43 = .ok (.iaload, 1) := by decide +kernel
theorem dX7_placeCross_44 : decode cX7_placeCross 44 = .ok (.aaload, 1) := by decide +kernel
theorem dX7_placeCross_45 : decode cX7_placeCross 45 = .ok (.getfield 194, 3) := by decide +kernel
theorem dX7_placeCross_48 : decode cX7_placeCross 48 = .ok (.aload_n 2, 1) := by decide +kernel
theorem dX7_placeCross_49 : decode cX7_placeCross 49 = .ok (.invokevirtual 282, 3) := by decide +kernel
theorem dX7_placeCross_52 : decode cX7_placeCross 52 = .ok (.aload_n 0, 1) := by decide +kernel
theorem dX7_placeCross_53 : decode cX7_placeCross 53 = .ok (.getfield 52, 3) := by decide +kernel
theorem dX7_placeCross_56 : decode cX7_placeCross 56 = .ok (.aload_n 0, 1) := by decide +kernel
theorem dX7_placeCross_57 : decode cX7_placeCross 57 = .ok (.getfield 11, 3) := by decide +kernel
theorem dX7_placeCross_60 : decode cX7_placeCross 60 = .ok (.aload_n 1, 1) := by decide +kernel
theorem dX7_placeCross_61 : decode cX7_placeCross 61 = .ok (.getfield 167, 3) := by decide +kernel
theorem dX7_placeCross_64 : decode cX7_placeCross 64 = .ok (.iconst 3, 1) := by decide +kernel
theorem dX7_placeCross_65 : decode cX7_placeCross 65 = .ok (.iaload, 1) := by decide +kernel
theorem dX7_placeCross_66 : decode cX7_placeCross 66 = .ok (.aaload, 1) := by decide +kernel
theorem dX7_placeCross_67 : decode cX7_placeCross 67 = .ok (.getfield 194, 3) := by decide +kernel
theorem dX7_placeCross_70 : decode cX7_placeCross 70 = .ok (.aload_n 3, 1) := by decide +kernel
theorem dX7_placeCross_71 : decode cX7_placeCross 71 = .ok (.invokevirtual 282, 3) := by decide +kernel
theorem dX7_placeCross_74 : decode cX7_placeCross 74 = .ok (.aload_n 0, 1) := by decide +kernel
theorem dX7_placeCross_75 : decode cX7_placeCross 75 = .ok (.getfield 55, 3) := by decide +kernel
theorem dX7_placeCross_78 : decode cX7_placeCross 78 = .ok (.aload_n 3, 1) := by decide +kernel
theorem dX7_placeCross_79 : decode cX7_placeCross 79 = .ok (.aload_n 2, 1) := by decide +kernel
theorem dX7_placeCross_80 : decode cX7_placeCross 80 = .ok (.invokevirtual 282, 3) := by decide +kernel
theorem dX7_placeCross_83 : decode cX7_placeCross 83 = .ok (.aload_n 0, 1) := by decide +kernel
theorem dX7_placeCross_84 : decode cX7_placeCross 84 = .ok (.getfield 65, 3) := by decide +kernel
theorem dX7_placeCross_87 : decode cX7_placeCross 87 = .ok (.aload_n 0, 1) := by decide +kernel
theorem dX7_placeCross_88 : decode cX7_placeCross 88 = .ok (.getfield 55, 3) := by decide +kernel
theorem dX7_placeCross_91 : decode cX7_placeCross 91 = .ok (.aload_n 0, 1) := by decide +kernel
theorem dX7_placeCross_92 : decode cX7_placeCross 92 = .ok (.getfield 52, 3) := by decide +kernel
theorem dX7_placeCross_95 : decode cX7_placeCross 95 = .ok (.invokevirtual 332, 3) := by decide +kernel
theorem dX7_placeCross_98 : decode cX7_placeCross 98 = .ok (.aload_n 0, 1) := by decide +kernel
theorem dX7_placeCross_99 : decode cX7_placeCross 99 = .ok (.getfield 62, 3) := by decide +kernel
theorem dX7_placeCross_102 : decode cX7_placeCross 102 = .ok (.aload_n 0, 1) := by decide +kernel
theorem dX7_placeCross_103 : decode cX7_placeCross 103 = .ok (.getfield 48, 3) := by decide +kernel
theorem dX7_placeCross_106 : decode cX7_placeCross 106 = .ok (.aload_n 0, 1) := by decide +kernel
theorem dX7_placeCross_107 : decode cX7_placeCross 107 = .ok (.getfield 52, 3) := by decide +kernel
theorem dX7_placeCross_110 : decode cX7_placeCross 110 = .ok (.invokevirtual 332, 3) := by decide +kernel
theorem dX7_placeCross_113 : decode cX7_placeCross 113 = .ok (.aload_n 0, 1) := by decide +kernel
theorem dX7_placeCross_114 : decode cX7_placeCross 114 = .ok (.getfield 68, 3) := by decide +kernel
theorem dX7_placeCross_117 : decode cX7_placeCross 117 = .ok (.aload_n 0, 1) := by decide +kernel
theorem dX7_placeCross_118 : decode cX7_placeCross 118 = .ok (.getfield 65, 3) := by decide +kernel
theorem dX7_placeCross_121 : decode cX7_placeCross 121 = .ok (.aload_n 0, 1) := by decide +kernel
theorem dX7_placeCross_122 : decode cX7_placeCross 122 = .ok (.getfield 62, 3) := by decide +kernel
theorem dX7_placeCross_125 : decode cX7_placeCross 125 = .ok (.invokevirtual 300, 3) := by decide +kernel
theorem dX7_placeCross_128 : decode cX7_placeCross 128 = .ok (.aload_n 1, 1) := by decide +kernel
theorem dX7_placeCross_129 : decode cX7_placeCross 129 = .ok (.getfield 194, 3) := by decide +kernel
theorem dX7_placeCross_132 : decode cX7_placeCross 132 = .ok (.aload_n 2, 1) := by decide +kernel
theorem dX7_placeCross_133 : decode cX7_placeCross 133 = .ok (.invokevirtual 250, 3) := by decide +kernel
theorem dX7_placeCross_136 : decode cX7_placeCross 136 = .ok (.aload_n 1, 1) := by decide +kernel
theorem dX7_placeCross_137 : decode cX7_placeCross 137 = .ok (.getfield 194, 3) := by decide +kernel
theorem dX7_placeCross_140 : decode cX7_placeCross 140 = .ok (.aload_n 0, 1) := by decide +kernel
theorem dX7_placeCross_141 : decode cX7_placeCross 141 = .ok (.getfield 68, 3) := by decide +kernel
theorem dX7_placeCross_144 : decode cX7_placeCross 144 = .ok (.aload_n 0, 1) := by decide +kernel
theorem dX7_placeCross_145 : decode cX7_placeCross 145 = .ok (.getfield 48, 3) := by decide +kernel
theorem dX7_placeCross_148 : decode cX7_placeCross 148 = .ok (.invokevirtual 278, 3) := by decide +kernel
theorem dX7_placeCross_151 : decode cX7_placeCross 151 = .ok (.aload_n 1, 1) := by decide +kernel
theorem dX7_placeCross_152 : decode cX7_placeCross 152 = .ok (.iconst 0, 1) := by decide +kernel
theorem dX7_placeCross_153 : decode cX7_placeCross 153 = .ok (.invokestatic 220, 3) := by decide +kernel
theorem dX7_placeCross_156 : decode cX7_placeCross 156 = .ok (.ireturn, 1) := by decide +kernel
theorem dX7_listWays_0 : decode cX7_listWays 0 = .ok (.aload_n 0, 1) := by decide +kernel
theorem dX7_listWays_1 : decode cX7_listWays 1 = .ok (.getfield 87, 3) := by decide +kernel
theorem dX7_listWays_4 : decode cX7_listWays 4 = .ok (.ifCond .eq 4, 3) := by decide +kernel
theorem dX7_listWays_7 : decode cX7_listWays 7 = .ok (.return_, 1) := by decide +kernel
theorem dX7_listWays_8 : decode cX7_listWays 8 = .ok (.aload_n 0, 1) := by decide +kernel
theorem dX7_listWays_9 : decode cX7_listWays 9 = .ok (.iconst 0, 1) := by decide +kernel
theorem dX7_listWays_10 : decode cX7_listWays 10 = .ok (.putfield 335, 3) := by decide +kernel
theorem dX7_listWays_13 : decode cX7_listWays 13 = .ok (.iconst 0, 1) := by decide +kernel
theorem dX7_listWays_14 : decode cX7_listWays 14 = .ok (.istore_n 1, 1) := by decide +kernel
theorem dX7_listWays_15 : decode cX7_listWays 15 = .ok (.iload_n 1, 1) := by decide +kernel
theorem dX7_listWays_16 : decode cX7_listWays 16 = .ok (.iconst 1, 1) := by decide +kernel
theorem dX7_listWays_17 : decode cX7_listWays 17 = .ok (.aload_n 0, 1) := by decide +kernel
theorem dX7_listWays_18 : decode cX7_listWays 18 = .ok (.getfield 81, 3) := by decide +kernel
theorem dX7_listWays_21 : decode cX7_listWays 21 = .ok (.ishl, 1) := by decide +kernel
theorem dX7_listWays_22 : decode cX7_listWays 22 = .ok (.if_icmp .ge 68, 3) := by decide +kernel
theorem dX7_listWays_25 : decode cX7_listWays 25 = .ok (.iload_n 1, 1) := by decide +kernel
theorem dX7_listWays_26 : decode cX7_listWays 26 = .ok (.aload_n 0, 1) := by decide +kernel
theorem dX7_listWays_27 : decode cX7_listWays 27 = .ok (.getfield 42, 3) := by decide +kernel
theorem dX7_listWays_30 : decode cX7_listWays 30 = .ok (.arraylength, 1) := by decide +kernel
theorem dX7_listWays_31 : decode cX7_listWays 31 = .ok (.if_icmp .ge 59, 3) := by decide +kernel
theorem dX7_listWays_34 : decode cX7_listWays 34 = .ok (.aload_n 0, 1) := by decide +kernel
theorem dX7_listWays_35 : decode cX7_listWays 35 = .ok (.iload_n 1, 1) := by decide +kernel
theorem dX7_listWays_36 : decode cX7_listWays 36 = .ok (.iconst 0, 1) := by decide +kernel
theorem dX7_listWays_37 : decode cX7_listWays 37 = .ok (.invokevirtual 338, 3) := by decide +kernel
theorem dX7_listWays_40 : decode cX7_listWays 40 = .ok (.istore_n 2, 1) := by decide +kernel
theorem dX7_listWays_41 : decode cX7_listWays 41 = .ok (.iload_n 2, 1) := by decide +kernel
theorem dX7_listWays_42 : decode cX7_listWays 42 = .ok (.iconst 3, 1) := by decide +kernel
theorem dX7_listWays_43 : decode cX7_listWays 43 = .ok (.if_icmp .eq 41, 3) := by decide +kernel
theorem dX7_listWays_46 : decode cX7_listWays 46 = .ok (.aload_n 0, 1) := by decide +kernel
theorem dX7_listWays_47 : decode cX7_listWays 47 = .ok (.getfield 42, 3) := by decide +kernel
theorem dX7_listWays_50 : decode cX7_listWays 50 = .ok (.aload_n 0, 1) := by decide +kernel
theorem dX7_listWays_51 : decode cX7_listWays 51 = .ok (.getfield 335, 3) := by decide +kernel
theorem dX7_listWays_54 : decode cX7_listWays 54 = .ok (.iload_n 1, 1) := by decide +kernel
theorem dX7_listWays_55 : decode cX7_listWays 55 = .ok (.iastore, 1) := by decide +kernel
theorem dX7_listWays_56 : decode cX7_listWays 56 = .ok (.aload_n 0, 1) := by decide +kernel
theorem dX7_listWays_57 : decode cX7_listWays 57 = .ok (.getfield 45, 3) := by decide +kernel
theorem dX7_listWays_60 : decode cX7_listWays 60 = .ok (.aload_n 0, 1) := by decide +kernel
theorem dX7_listWays_61 : decode cX7_listWays 61 = .ok (.getfield 335, 3) := by decide +kernel
theorem dX7_listWays_64 : decode cX7_listWays 64 = .ok (.iload_n 2, 1) := by decide +kernel
theorem dX7_listWays_65 : decode cX7_listWays 65 = .ok (.ifCond .ne 7, 3) := by decide +kernel
theorem dX7_listWays_68 : decode cX7_listWays 68 = .ok (.iconst 1, 1) := by decide +kernel
theorem dX7_listWays_69 : decode cX7_listWays 69 = .ok (.goto 4, 3) := by decide +kernel
theorem dX7_listWays_72 : decode cX7_listWays 72 = .ok (.iconst 0, 1) := by decide +kernel
theorem dX7_listWays_73 : decode cX7_listWays 73 = .ok (.iastore, 1) := by decide +kernel
theorem dX7_listWays_74 : decode cX7_listWays 74 = .ok (.aload_n 0, 1) := by decide +kernel
theorem dX7_listWays_75 : decode cX7_listWays 75 = .ok (.dup, 1) := by decide +kernel
theorem dX7_listWays_76 : decode cX7_listWays 76 = .ok (.getfield 335, 3) := by decide +kernel
theorem dX7_listWays_79 : decode cX7_listWays 79 = .ok (.iconst 1, 1) := by decide +kernel
theorem dX7_listWays_80 : decode cX7_listWays 80 = .ok (.iadd, 1) := by decide +kernel
theorem dX7_listWays_81 : decode cX7_listWays 81 = .ok (.putfield 335, 3) := by decide +kernel
theorem dX7_listWays_84 : decode cX7_listWays 84 = .ok (.iinc 1 1, 3) := by decide +kernel
theorem dX7_listWays_87 : decode cX7_listWays 87 = .ok (.goto (-72), 3) := by decide +kernel
theorem dX7_listWays_90 : decode cX7_listWays 90 = .ok (.aload_n 0, 1) := by decide +kernel
theorem dX7_listWays_91 : decode cX7_listWays 91 = .ok (.iconst 1, 1) := by decide +kernel
theorem dX7_listWays_92 : decode cX7_listWays 92 = .ok (.putfield 87, 3) := by decide +kernel
theorem dX7_listWays_95 : decode cX7_listWays 95 = .ok (.return_, 1) := by decide +kernel
theorem dX7_walk_0 : decode cX7_walk 0 = .ok (.iload_n 3, 1) := by decide +kernel
theorem dX7_walk_1 : decode cX7_walk 1 = .ok (.ifCond .ge 7, 3) := by decide +kernel
theorem dX7_walk_4 : decode cX7_walk 4 = .ok (.iconst (-1), 1) := by decide +kernel
theorem dX7_walk_5 : decode cX7_walk 5 = .ok (.goto 4, 3) := by decide +kernel
theorem dX7_walk_8 : decode cX7_walk 8 = .ok (.iconst 1, 1) := by decide +kernel
theorem dX7_walk_9 : decode cX7_walk 9 = .ok (.istore 4, 2) := by decide +kernel
theorem dX7_walk_11 : decode cX7_walk 11 = .ok (.iconst 0, 1) := by decide +kernel
theorem dX7_walk_12 : decode cX7_walk 12 = .ok (.istore 5, 2) := by decide +kernel
theorem dX7_walk_14 : decode cX7_walk 14 = .ok (.iload 5, 2) := by decide +kernel
theorem dX7_walk_16 : decode cX7_walk 16 = .ok (.iload_n 3, 1) := by decide +kernel
theorem dX7_walk_17 : decode cX7_walk 17 = .ok (.invokestatic 265, 3) := by decide +kernel
theorem dX7_walk_20 : decode cX7_walk 20 = .ok (.if_icmp .ge 48, 3) := by decide +kernel
theorem dX7_walk_23 : decode cX7_walk 23 = .ok (.aload_n 0, 1) := by decide +kernel
theorem dX7_walk_24 : decode cX7_walk 24 = .ok (.getfield 20, 3) := by decide +kernel
theorem dX7_walk_27 : decode cX7_walk 27 = .ok (.iload_n 2, 1) := by decide +kernel
theorem dX7_walk_28 : decode cX7_walk 28 = .ok (.iaload, 1) := by decide +kernel
theorem dX7_walk_29 : decode cX7_walk 29 = .ok (.istore 6, 2) := by decide +kernel
theorem dX7_walk_31 : decode cX7_walk 31 = .ok (.aload_n 0, 1) := by decide +kernel
theorem dX7_walk_32 : decode cX7_walk 32 = .ok (.iload_n 2, 1) := by decide +kernel
theorem dX7_walk_33 : decode cX7_walk 33 = .ok (.iload 6, 2) := by decide +kernel
theorem dX7_walk_35 : decode cX7_walk 35 = .ok (.iload 4, 2) := by decide +kernel
theorem dX7_walk_37 : decode cX7_walk 37 = .ok (.iadd, 1) := by decide +kernel
theorem dX7_walk_38 : decode cX7_walk 38 = .ok (.sipush 1023, 3) := by decide +kernel
theorem dX7_walk_41 : decode cX7_walk 41 = .ok (.iand, 1) := by decide +kernel
theorem dX7_walk_42 : decode cX7_walk 42 = .ok (.invokevirtual 91, 3) := by decide +kernel
theorem dX7_walk_45 : decode cX7_walk 45 = .ok (.aload_n 0, 1) := by decide +kernel
theorem dX7_walk_46 : decode cX7_walk 46 = .ok (.iload_n 1, 1) := by decide +kernel
theorem dX7_walk_47 : decode cX7_walk 47 = .ok (.iconst 1, 1) := by decide +kernel
theorem dX7_walk_48 : decode cX7_walk 48 = .ok (.invokevirtual 338, 3) := by decide +kernel
theorem dX7_walk_51 : decode cX7_walk 51 = .ok (.ifCond .eq 11, 3) := by decide +kernel
theorem dX7_walk_54 : decode cX7_walk 54 = .ok (.aload_n 0, 1) := by decide +kernel
theorem dX7_walk_55 : decode cX7_walk 55 = .ok (.iload_n 2, 1) := by decide +kernel
theorem dX7_walk_56 : decode cX7_walk 56 = .ok (.iload 6, 2) := by decide +kernel
theorem dX7_walk_58 : decode cX7_walk 58 = .ok (.invokevirtual 91, 3) := by decide +kernel
theorem dX7_walk_61 : decode cX7_walk 61 = .ok (.return_, 1) := by decide +kernel
theorem dX7_walk_62 : decode cX7_walk 62 = .ok (.iinc 5 1, 3) := by decide +kernel
theorem dX7_walk_65 : decode cX7_walk 65 = .ok (.goto (-51), 3) := by decide +kernel
theorem dX7_walk_68 : decode cX7_walk 68 = .ok (.return_, 1) := by decide +kernel
theorem dX7_runsOf_0 : decode cX7_runsOf 0 = .ok (.aload_n 0, 1) := by decide +kernel
theorem dX7_runsOf_1 : decode cX7_runsOf 1 = .ok (.getfield 20, 3) := by decide +kernel
theorem dX7_runsOf_4 : decode cX7_runsOf 4 = .ok (.iload_n 2, 1) := by decide +kernel
theorem dX7_runsOf_5 : decode cX7_runsOf 5 = .ok (.iaload, 1) := by decide +kernel
theorem dX7_runsOf_6 : decode cX7_runsOf 6 = .ok (.istore 4, 2) := by decide +kernel
theorem dX7_runsOf_8 : decode cX7_runsOf 8 = .ok (.aload_n 0, 1) := by decide +kernel
theorem dX7_runsOf_9 : decode cX7_runsOf 9 = .ok (.iload_n 2, 1) := by decide +kernel
theorem dX7_runsOf_10 : decode cX7_runsOf 10 = .ok (.sipush 1023, 3) := by decide +kernel
theorem dX7_runsOf_13 : decode cX7_runsOf 13 = .ok (.invokevirtual 91, 3) := by decide +kernel
theorem dX7_runsOf_16 : decode cX7_runsOf 16 = .ok (.aload_n 0, 1) := by decide +kernel
theorem dX7_runsOf_17 : decode cX7_runsOf 17 = .ok (.iload_n 1, 1) := by decide +kernel
theorem dX7_runsOf_18 : decode cX7_runsOf 18 = .ok (.iconst 1, 1) := by decide +kernel
theorem dX7_runsOf_19 : decode cX7_runsOf 19 = .ok (.invokevirtual 338, 3) := by decide +kernel
theorem dX7_runsOf_22 : decode cX7_runsOf 22 = .ok (.ifCond .ne 7, 3) := by decide +kernel
theorem dX7_runsOf_25 : decode cX7_runsOf 25 = .ok (.iconst 1, 1) := by decide +kernel
theorem dX7_runsOf_26 : decode cX7_runsOf 26 = .ok (.goto 4, 3) := by decide +kernel
theorem dX7_runsOf_29 : decode cX7_runsOf 29 = .ok (.iconst 0, 1) := by decide +kernel
theorem dX7_runsOf_30 : decode cX7_runsOf 30 = .ok (.istore 5, 2) := by decide +kernel
theorem dX7_runsOf_32 : decode cX7_runsOf 32 = .ok (.iconst 0, 1) := by decide +kernel
theorem dX7_runsOf_33 : decode cX7_runsOf 33 = .ok (.istore 6, 2) := by decide +kernel
theorem dX7_runsOf_35 : decode cX7_runsOf 35 = .ok (.iconst 0, 1) := by decide +kernel
theorem dX7_runsOf_36 : decode cX7_runsOf 36 = .ok (.istore 7, 2) := by decide +kernel
theorem dX7_runsOf_38 : decode cX7_runsOf 38 = .ok (.iconst (-1), 1) := by decide +kernel
theorem dX7_runsOf_39 : decode cX7_runsOf 39 = .ok (.istore 8, 2) := by decide +kernel
theorem dX7_runsOf_41 : decode cX7_runsOf 41 = .ok (.iconst 0, 1) := by decide +kernel
theorem dX7_runsOf_42 : decode cX7_runsOf 42 = .ok (.istore 9, 2) := by decide +kernel
theorem dX7_runsOf_44 : decode cX7_runsOf 44 = .ok (.iload 9, 2) := by decide +kernel
theorem dX7_runsOf_46 : decode cX7_runsOf 46 = .ok (.sipush 1024, 3) := by decide +kernel
theorem dX7_runsOf_49 : decode cX7_runsOf 49 = .ok (.if_icmp .ge 78, 3) := by decide +kernel
theorem dX7_runsOf_52 : decode cX7_runsOf 52 = .ok (.aload_n 0, 1) := by decide +kernel
theorem dX7_runsOf_53 : decode cX7_runsOf 53 = .ok (.iload_n 2, 1) := by decide +kernel
theorem dX7_runsOf_54 : decode cX7_runsOf 54 = .ok (.iload 9, 2) := by decide +kernel
theorem dX7_runsOf_56 : decode cX7_runsOf 56 = .ok (.invokevirtual 91, 3) := by decide +kernel
theorem dX7_runsOf_59 : decode cX7_runsOf 59 = .ok (.aload_n 0, 1) := by decide +kernel
theorem dX7_runsOf_60 : decode cX7_runsOf 60 = .ok (.iload_n 1, 1) := by decide +kernel
theorem dX7_runsOf_61 : decode cX7_runsOf 61 = .ok (.iconst 1, 1) := by decide +kernel
theorem dX7_runsOf_62 : decode cX7_runsOf 62 = .ok (.invokevirtual 338, 3) := by decide +kernel
theorem dX7_runsOf_65 : decode cX7_runsOf 65 = .ok (.ifCond .ne 7, 3) := by decide +kernel
theorem dX7_runsOf_68 : decode cX7_runsOf 68 = .ok (.iconst 1, 1) := by decide +kernel
theorem dX7_runsOf_69 : decode cX7_runsOf 69 = .ok (.goto 4, 3) := by decide +kernel
theorem dX7_runsOf_72 : decode cX7_runsOf 72 = .ok (.iconst 0, 1) := by decide +kernel
theorem dX7_runsOf_73 : decode cX7_runsOf 73 = .ok (.istore 10, 2) := by decide +kernel
theorem dX7_runsOf_75 : decode cX7_runsOf 75 = .ok (.iload 6, 2) := by decide +kernel
theorem dX7_runsOf_77 : decode cX7_runsOf 77 = .ok (.iload 10, 2) := by decide +kernel
theorem dX7_runsOf_79 : decode cX7_runsOf 79 = .ok (.ifCond .eq 7, 3) := by decide +kernel
theorem dX7_runsOf_82 : decode cX7_runsOf 82 = .ok (.iconst 1, 1) := by decide +kernel
theorem dX7_runsOf_83 : decode cX7_runsOf 83 = .ok (.goto 4, 3) := by decide +kernel
theorem dX7_runsOf_86 : decode cX7_runsOf 86 = .ok (.iconst 0, 1) := by decide +kernel
theorem dX7_runsOf_87 : decode cX7_runsOf 87 = .ok (.iadd, 1) := by decide +kernel
theorem dX7_runsOf_88 : decode cX7_runsOf 88 = .ok (.istore 6, 2) := by decide +kernel
theorem dX7_runsOf_90 : decode cX7_runsOf 90 = .ok (.iload 10, 2) := by decide +kernel
theorem dX7_runsOf_92 : decode cX7_runsOf 92 = .ok (.ifCond .eq 25, 3) := by decide +kernel
theorem dX7_runsOf_95 : decode cX7_runsOf 95 = .ok (.iload 5, 2) := by decide +kernel
theorem dX7_runsOf_97 : decode cX7_runsOf 97 = .ok (.ifCond .ne 20, 3) := by decide +kernel
theorem dX7_runsOf_100 : decode cX7_runsOf 100 = .ok (.iinc 7 1, 3) := by decide +kernel
theorem dX7_runsOf_103 : decode cX7_runsOf 103 = .ok (.iload 8, 2) := by decide +kernel
theorem dX7_runsOf_105 : decode cX7_runsOf 105 = .ok (.ifCond .ge 8, 3) := by decide +kernel
theorem dX7_runsOf_108 : decode cX7_runsOf 108 = .ok (.iload 9, 2) := by decide +kernel
theorem dX7_runsOf_110 : decode cX7_runsOf 110 = .ok (.goto 5, 3) := by decide +kernel
theorem dX7_runsOf_113 : decode cX7_runsOf 113 = .ok (.iload 8, 2) := by decide +kernel
theorem dX7_runsOf_115 : decode cX7_runsOf 115 = .ok (.istore 8, 2) := by decide +kernel
theorem dX7_runsOf_117 : decode cX7_runsOf 117 = .ok (.iload 10, 2) := by decide +kernel
theorem dX7_runsOf_119 : decode cX7_runsOf 119 = .ok (.istore 5, 2) := by decide +kernel
theorem dX7_runsOf_121 : decode cX7_runsOf 121 = .ok (.iinc 9 1, 3) := by decide +kernel
theorem dX7_runsOf_124 : decode cX7_runsOf 124 = .ok (.goto (-80), 3) := by decide +kernel
theorem dX7_runsOf_127 : decode cX7_runsOf 127 = .ok (.aload_n 0, 1) := by decide +kernel
theorem dX7_runsOf_128 : decode cX7_runsOf 128 = .ok (.iload_n 2, 1) := by decide +kernel
theorem dX7_runsOf_129 : decode cX7_runsOf 129 = .ok (.iload 4, 2) := by decide +kernel
theorem dX7_runsOf_131 : decode cX7_runsOf 131 = .ok (.invokevirtual 91, 3) := by decide +kernel
theorem dX7_runsOf_134 : decode cX7_runsOf 134 = .ok (.iload_n 3, 1) := by decide +kernel
theorem dX7_runsOf_135 : decode cX7_runsOf 135 = .ok (.ifCond .ne 6, 3) := by decide +kernel
theorem dX7_runsOf_138 : decode cX7_runsOf 138 = .ok (.iload 6, 2) := by decide +kernel
theorem dX7_runsOf_140 : decode cX7_runsOf 140 = .ok (.ireturn, 1) := by decide +kernel
theorem dX7_runsOf_141 : decode cX7_runsOf 141 = .ok (.iload 6, 2) := by decide +kernel
theorem dX7_runsOf_143 : decode cX7_runsOf 143 = .ok (.sipush 1024, 3) := by decide +kernel
